def dq_X12_init : List Cond := [.methodLink RX12 1 objectInit, .instanceMethod objectInit, .code objectInit ⟨#[0xb1]⟩ 1 none, .arrayClass .int, .fieldLink RX12 7 "DiskEvidenceModel" "bytes" "[I", .fieldLink RX12 13 "DiskEvidenceModel" "sectorsOf" "[I", .constant RX12 16 (49152), .fieldLink RX12 17 "DiskEvidenceModel" "data" "[I", .arrayClass .boolean, .fieldLink RX12 20 "DiskEvidenceModel" "isSpoilt" "[Z", .fieldLink RX12 24 "DiskEvidenceModel" "sort" "[I", .fieldLink RX12 27 "DiskEvidenceModel" "pictureOf" "[I", .fieldLink RX12 30 "DiskEvidenceModel" "beginOf" "[I", .fieldLink RX12 33 "DiskEvidenceModel" "blocksOf" "[I", .fieldLink RX12 36 "DiskEvidenceModel" "members" "[I", .constant RX12 39 (196608), .fieldLink RX12 40 "DiskEvidenceModel" "all" "[I", .fieldLink RX12 43 "DiskEvidenceModel" "comesSpoilt" "[Z", .fieldLink RX12 46 "DiskEvidenceModel" "isOld" "Z", .fieldLink RX12 50 "DiskEvidenceModel" "sectorChanged" "[Z", .fieldLink RX12 53 "DiskEvidenceModel" "blockChanged" "[Z", .fieldLink RX12 56 "DiskEvidenceModel" "partKind" "[I", .fieldLink RX12 59 "DiskEvidenceModel" "partFirst" "[I", .fieldLink RX12 62 "DiskEvidenceModel" "partMany" "[I", .fieldLink RX12 65 "DiskEvidenceModel" "partTable" "[I", .fieldLink RX12 68 "DiskEvidenceModel" "tables" "[I", .fieldLink RX12 71 "DiskEvidenceModel" "openTable" "[I", .fieldLink RX12 74 "DiskEvidenceModel" "openRow" "[I", .fieldLink RX12 77 "DiskEvidenceModel" "waitVolume" "[I", .fieldLink RX12 80 "DiskEvidenceModel" "waitBlock" "[I", .fieldLink RX12 83 "DiskEvidenceModel" "waitBytes" "[I", .fieldLink RX12 86 "DiskEvidenceModel" "one" "[I", .fieldLink RX12 89 "DiskEvidenceModel" "kept" "[I", .fieldLink RX12 92 "DiskEvidenceModel" "image" "[I", .fieldLink RX12 95 "DiskEvidenceModel" "old" "[I", .fieldLink RX12 98 "DiskEvidenceModel" "nameFrom" "[I", .fieldLink RX12 101 "DiskEvidenceModel" "nameTo" "[I", .fieldLink RX12 104 "DiskEvidenceModel" "link" "[I", .fieldLink RX12 107 "DiskEvidenceModel" "treeForm" "[I", .fieldLink RX12 110 "DiskEvidenceModel" "treeVolume" "[I", .fieldLink RX12 113 "DiskEvidenceModel" "treeSpan" "[I", .fieldLink RX12 116 "DiskEvidenceModel" "treeBlocks" "[I", .fieldLink RX12 119 "DiskEvidenceModel" "treeZone" "[I", .constant RX12 122 (98304), .fieldLink RX12 123 "DiskEvidenceModel" "treeBytes" "[I", .fieldLink RX12 126 "DiskEvidenceModel" "ownerOf" "[I", .fieldLink RX12 129 "DiskEvidenceModel" "living" "[I", .fieldLink RX12 132 "DiskEvidenceModel" "lost" "[I", .fieldLink RX12 135 "DiskEvidenceModel" "cut" "[I", .fieldLink RX12 138 "DiskEvidenceModel" "inside" "[I", .fieldLink RX12 141 "DiskEvidenceModel" "faults" "[I", .fieldLink RX12 144 "DiskEvidenceModel" "faultNumber" "[I", .fieldLink RX12 147 "DiskEvidenceModel" "faultFile" "[I", .fieldLink RX12 150 "DiskEvidenceModel" "faultBlock" "[I", .fieldLink RX12 153 "DiskEvidenceModel" "kindOf" "[I", .fieldLink RX12 156 "DiskEvidenceModel" "endOf" "[I", .arrayClass .long, .fieldLink RX12 159 "DiskEvidenceModel" "sizeOf" "[J", .fieldLink RX12 163 "DiskEvidenceModel" "madeOf" "[J", .fieldLink RX12 166 "DiskEvidenceModel" "alteredOf" "[J", .fieldLink RX12 169 "DiskEvidenceModel" "erasedOf" "[J", .fieldLink RX12 172 "DiskEvidenceModel" "gradeOf" "[I", .fieldLink RX12 175 "DiskEvidenceModel" "parentOf" "[I", .fieldLink RX12 178 "DiskEvidenceModel" "depthOf" "[I", .fieldLink RX12 181 "DiskEvidenceModel" "faultsOf" "[I", .fieldLink RX12 184 "DiskEvidenceModel" "blocksMany" "[I", .constant RX12 187 (230400), .fieldLink RX12 188 "DiskEvidenceModel" "fileBlocks" "[I", .fieldLink RX12 191 "DiskEvidenceModel" "nameMany" "[I", .fieldLink RX12 194 "DiskEvidenceModel" "nameBytes" "[I", .fieldLink RX12 197 "DiskEvidenceModel" "sourceOf" "[I", .fieldLink RX12 200 "DiskEvidenceModel" "sourceFrom" "[I", .fieldLink RX12 203 "DiskEvidenceModel" "walkFile" "[I", .fieldLink RX12 206 "DiskEvidenceModel" "walkRow" "[I", .fieldLink RX12 209 "DiskEvidenceModel" "walkNode" "[I", .fieldLink RX12 212 "DiskEvidenceModel" "erasedRow" "[I", .fieldLink RX12 215 "DiskEvidenceModel" "erasedParent" "[I", .fieldLink RX12 218 "DiskEvidenceModel" "erasedDepth" "[I", .fieldLink RX12 221 "DiskEvidenceModel" "isWalked" "[Z", .fieldLink RX12 224 "DiskEvidenceModel" "entryAt" "[I", .fieldLink RX12 227 "DiskEvidenceModel" "entryHas" "[I", .fieldLink RX12 230 "DiskEvidenceModel" "row" "[I", .fieldLink RX12 233 "DiskEvidenceModel" "openTree" "[I", .fieldLink RX12 236 "DiskEvidenceModel" "openFile" "[I", .fieldLink RX12 239 "DiskEvidenceModel" "openSize" "[I", .fieldLink RX12 242 "DiskEvidenceModel" "points" "[I", .fieldLink RX12 245 "DiskEvidenceModel" "pointKind" "[I", .fieldLink RX12 248 "DiskEvidenceModel" "pointFrom" "[I", .fieldLink RX12 251 "DiskEvidenceModel" "pointTo" "[I", .fieldLink RX12 254 "DiskEvidenceModel" "pointValue" "[I", .fieldLink RX12 257 "DiskEvidenceModel" "pointParent" "[I", .fieldLink RX12 260 "DiskEvidenceModel" "packAt" "[I", .fieldLink RX12 263 "DiskEvidenceModel" "isHad" "[Z", .fieldLink RX12 266 "DiskEvidenceModel" "hitFile" "[I", .fieldLink RX12 269 "DiskEvidenceModel" "hitAt" "[I", .fieldLink RX12 272 "DiskEvidenceModel" "hitMany" "[I", .fieldLink RX12 275 "DiskEvidenceModel" "takes" "[Z", .fieldLink RX12 278 "DiskEvidenceModel" "often" "[I", .arrayClass .char, .fieldLink RX12 281 "DiskEvidenceModel" "fieldWords" "[C", .fieldLink RX12 285 "DiskEvidenceModel" "wordFrom" "[I", .fieldLink RX12 288 "DiskEvidenceModel" "sortWord" "[C", .fieldLink RX12 291 "DiskEvidenceModel" "ops" "[I", .fieldLink RX12 294 "DiskEvidenceModel" "pile" "[I", .fieldLink RX12 297 "DiskEvidenceModel" "askField" "[I", .fieldLink RX12 300 "DiskEvidenceModel" "askHow" "[I", .fieldLink RX12 303 "DiskEvidenceModel" "askFrom" "[I", .fieldLink RX12 306 "DiskEvidenceModel" "askTo" "[I", .fieldLink RX12 309 "DiskEvidenceModel" "truths" "[Z", .fieldLink RX12 312 "DiskEvidenceModel" "result" "[I", .fieldLink RX12 315 "DiskEvidenceModel" "momentAt" "[J", .fieldLink RX12 318 "DiskEvidenceModel" "momentGrain" "[I", .fieldLink RX12 321 "DiskEvidenceModel" "momentTree" "[I", .fieldLink RX12 324 "DiskEvidenceModel" "momentFile" "[I", .fieldLink RX12 327 "DiskEvidenceModel" "momentWhich" "[I", .fieldLink RX12 330 "DiskEvidenceModel" "doubtTree" "[I", .fieldLink RX12 333 "DiskEvidenceModel" "doubtFile" "[I", .fieldLink RX12 336 "DiskEvidenceModel" "doubtWhich" "[I", .fieldLink RX12 339 "DiskEvidenceModel" "claimTree" "[I", .fieldLink RX12 342 "DiskEvidenceModel" "claimFile" "[I", .fieldLink RX12 345 "DiskEvidenceModel" "claimKind" "[I", .fieldLink RX12 348 "DiskEvidenceModel" "claimA" "[I", .fieldLink RX12 351 "DiskEvidenceModel" "claimGrade" "[I", .fieldLink RX12 354 "DiskEvidenceModel" "actWho" "[I", .fieldLink RX12 357 "DiskEvidenceModel" "actWhat" "[I", .fieldLink RX12 360 "DiskEvidenceModel" "actAt" "[I", .fieldLink RX12 363 "DiskEvidenceModel" "actLink" "[J", .fieldLink RX12 366 "DiskEvidenceModel" "acts" "I"]
def wq_X12_init : List Cond := .code yX12_init cX12_init 1 none :: (dq_X12_init ++ (wsX120))
theorem inq_X12_init_c12 : ∀ w ∈ wsX120, w ∈ wq_X12_init := fun w h => List.mem_cons_of_mem _ (List.mem_append_right _ (h))
theorem ga_X12_init : wq_X12_init.all goodWord = true := by decide +kernel
theorem tdq_X12_init : ∀ w ∈ dq_X12_init, w ∈ lw_tbl := fun w h => (goodIn_r (big := lw_tbl) dq_X12_init [2244, 316, 317, 422, 2250, 2253, 2245, 2254, 695, 2255, 2257, 2258, 2259, 2260, 2261, 2246, 2262, 2263, 2264, 2266, 2267, 2270, 2271, 2272, 2273, 2274, 2276, 2277, 2280, 2281, 2282, 2284, 2285, 2286, 2287, 2299, 2300, 2303, 2309, 2310, 2311, 2312, 2313, 2247, 2314, 2315, 2316, 2317, 2318, 2319, 2320, 2321, 2322, 2323, 2324, 2325, 561, 2326, 2327, 2328, 2329, 2330, 2331, 2332, 2333, 2334, 2248, 2335, 2336, 2337, 2338, 2339, 2343, 2344, 2345, 2347, 2348, 2349, 2350, 2352, 2353, 2354, 2360, 2361, 2362, 2363, 2364, 2365, 2366, 2367, 2368, 2370, 2372, 2374, 2375, 2376, 2379, 2380, 2766, 2381, 2382, 2383, 2387, 2389, 2391, 2392, 2393, 2394, 2397, 2399, 2401, 2402, 2403, 2404, 2405, 2407, 2408, 2409, 2411, 2412, 2413, 2414, 2415, 2417, 2418, 2419, 2420, 2416] (by decide +kernel) (by decide +kernel) w h).1
set_option maxRecDepth 200000 in
theorem tq_X12_init : ∀ w ∈ wq_X12_init, w ∈ lw_tbl := fun w h => (List.mem_cons.mp h).elim (fun e => by rw [e]; exact List.mem_of_getElem? (i := 2243) (rfl)) (fun h => (List.mem_append.mp h).elim (fun h => tdq_X12_init w h) (fun h => nX12 w h))
set_option maxHeartbeats 40000000 in
set_option maxRecDepth 100000 in
theorem c_X12_init (l : Launch) (dC : Nat → ClassId) (dI : Nat → Nat → Nat) (cI cB cZ cJ cC cP cV cT cO : ClassId) (sz : Nat) (h0 : Nat) : Met l yX12_init wq_X12_init ({ frames := 1, cells := 115, slots := 745641, locals := 12 }) (va_Pc [.ref h0] (fun U => U.heap.size = sz ∧ va_P (dC, dI) vwCl [(h0, .inr (12, df12))] U.heap ∧ va_K (dC, dI) vwCl [(cI, .int), (cB, .byte), (cZ, .boolean), (cJ, .long), (cC, .char), (cP, .object "DiskEvidence$Picture"), (cV, .object "DiskEvidence$Volume"), (cT, .object "DiskEvidence$Tree"), (cO, .object "DiskEvidence$Opening")] U ∧ va_D (fun _ => True) [(h0, .inr (12, df12))])) (va_Qv (fun _ : (Nat → Nat) => True) (fun u t => va_P (dC, dI) vwCl [(h0, .inr (12, fsM u)), ((u 1), .inl (cI, 4000, (.inl (fun _ => 0)))), ((u 4), .inl (cI, 6, (.inl (fun _ => 0)))), ((u 5), .inl (cI, 49152, (.inl (fun _ => 0)))), ((u 6), .inl (cZ, 768, (.inl (fun _ => 0)))), ((u 168), .inl (cI, 100, (.inl (fun _ => 0)))), ((u 169), .inl (cI, 100, (.inl (fun _ => 0)))), ((u 170), .inl (cI, 100, (.inl (fun _ => 0)))), ((u 171), .inl (cJ, 100, (.inr (.inl (fun _ => 0)))))] t.heap ∧ va_D (va_A [(h0, .inr (12, df12))] sz) [(h0, .inr (12, fsM u)), ((u 1), .inl (cI, 4000, (.inl (fun _ => 0)))), ((u 4), .inl (cI, 6, (.inl (fun _ => 0)))), ((u 5), .inl (cI, 49152, (.inl (fun _ => 0)))), ((u 6), .inl (cZ, 768, (.inl (fun _ => 0)))), ((u 168), .inl (cI, 100, (.inl (fun _ => 0)))), ((u 169), .inl (cI, 100, (.inl (fun _ => 0)))), ((u 170), .inl (cI, 100, (.inl (fun _ => 0)))), ((u 171), .inl (cJ, 100, (.inr (.inl (fun _ => 0)))))]) (va_A [(h0, .inr (12, df12))] sz)) 115 745641 (va_A [(h0, .inr (12, df12))] sz) := by
  refine Met.ofW (cc := cX12_init) (maxL := 1) (ret := none) (by decide) rfl ?_
  intro p e s m args below meth c s₁ B hml hv
  obtain ⟨rfl, hsz, hP, hK, hD0⟩ := hv
  have hx := B.exec
  have hb := B.bytes
  have hr := B.returns
  have hts := atoms_spec (ws := wq_X12_init) B.pre
  have hown : s.vm.findClass RX12 = some m.cls := findClass_of_methodNamed B.named
  have hlocks := B.notSynchronized
  have hin : meth.name = "<init>" := (name_of_methodNamed B.named B.method).1
  subst hsz
  have hD := hD0.self (sz := s.heap.size)
  generalize hAe : va_A [(h0, .inr (12, df12))] s.heap.size = A at hD ⊢
  have hA : ∀ q : Nat, s.heap.size ≤ q → A q := fun q h => by rw [← hAe]; exact Or.inr h
  have hS : va_S A s.heap s.heap [] := va_S.rf
  have hl := lv_entry ([.ref h0]) (n := 1) (Nat.le_of_ble_eq_true rfl)
  rw [lg_entry_eq]
  generalize (lg_sl ([.ref h0]) ++ List.replicate (1 - (lg_sl ([.ref h0])).length) Slot.unset).toArray = ls at hl ⊢
  have hl : lv_has ls 1 [(0, .ref h0)] := hl
  refine lv_aload_n hx hb dX12_init_0 rfl (lv_at hl 0 rfl) ?_
  refine W.objInit hx hb hown (hts (.methodLink RX12 1 objectInit) (List.mem_of_getElem? (i := 1) rfl)) (hts (.instanceMethod objectInit) (List.mem_of_getElem? (i := 2) rfl)) (hts (.code objectInit ⟨#[0xb1]⟩ 1 none) (List.mem_of_getElem? (i := 3) rfl)) rfl (by rw [hml]; exact hl.1) rfl dX12_init_1 (Nat.le_of_ble_eq_true rfl) (Nat.le_of_ble_eq_true rfl) ?_
  refine W.eq (g2 := F0 m 4 ls []) rfl ?_
  refine lv_aload_n hx hb dX12_init_4 rfl (lv_at hl 0 rfl) ?_
  refine lv_sipush (v := 4000) hx hb dX12_init_5 (by decide) ?_
  refine nw_arr (atype := .int) (N' := 4000) (a0 := (4000, (.inl (fun _ => 0)))) hx hb (hts (.arrayClass .int) (List.mem_of_getElem? (i := 4) rfl)) rfl hK 0 (cI := cI) rfl hP hD hS hA (fun _ => rfl) (by decide) (by decide) (by decide) (Nat.le_of_ble_eq_true rfl) (Nat.le_of_ble_eq_true rfl) dX12_init_8 (fun q1 H_1 hP_1 hD_1 hS_1 => ?_)
  clear hP hD hS
  have hP_2 : va_P (dC, dI) vwCl [(h0, .inr (12, df12)), (q1, .inl (cI, 4000, (.inl (fun _ => 0))))] H_1 := hP_1
  clear hP_1
  have hD_3 : va_D A [(h0, .inr (12, df12)), (q1, .inl (cI, 4000, (.inl (fun _ => 0))))] := hD_1
  clear hD_1
  refine W.widen (k := 1) (n := 4000) (by decide) (by decide) ?_
  refine va_putF (D := (dC, dI)) (ci := 12) (v := .ref q1) (ty := .array (.int)) (C := RX12) (T := TX12) (N := 172) hx hb hts inq_X12_init_c12 tyX12 tyX12_ok nmX12 hown hK hP_2 hD_3 hS_1 0 rfl rfl 1 (by decide) (hts (.fieldLink RX12 7 "DiskEvidenceModel" "bytes" "[I") (List.mem_of_getElem? (i := 5) rfl)) (fun _ h9 => h9) rfl hin rfl (by decide +kernel) rfl rfl (by rw [df12_len]; decide) dX12_init_10 (fun H_4 locs_4 hP_4 hD_4 hS_4 => ?_)
  clear hP_2 hD_3 hS_1
  have hP_5 : va_P (dC, dI) vwCl [(h0, .inr (12, (df12.set 1 (.ref q1)))), (q1, .inl (cI, 4000, (.inl (fun _ => 0))))] H_4 := hP_4
  clear hP_4
  have hD_6 : va_D A [(h0, .inr (12, (df12.set 1 (.ref q1)))), (q1, .inl (cI, 4000, (.inl (fun _ => 0))))] := hD_4
  clear hD_4
  obtain ⟨fs_2, efs_2⟩ : ∃ y, y = (df12.set 1 (.ref q1)) := ⟨_, rfl⟩
  rw [← efs_2] at hP_5 hD_6
  have hfl_2 : fs_2.length = 172 := by rw [efs_2, List.length_set]; exact df12_len
  refine lv_aload_n hx hb dX12_init_13 rfl (lv_at hl 0 rfl) ?_
  refine lv_bipush (v := 6) hx hb dX12_init_14 (by decide) ?_
  refine nw_arr (atype := .int) (N' := 6) (a0 := (6, (.inl (fun _ => 0)))) hx hb (hts (.arrayClass .int) (List.mem_of_getElem? (i := 4) rfl)) rfl hK 0 (cI := cI) rfl hP_5 hD_6 hS_4 hA (fun _ => rfl) (by decide) (by decide) (by decide) (Nat.le_of_ble_eq_true rfl) (Nat.le_of_ble_eq_true rfl) dX12_init_16 (fun q3 H_7 hP_7 hD_7 hS_7 => ?_)
  clear hP_5 hD_6 hS_4
  have hP_8 : va_P (dC, dI) vwCl [(h0, .inr (12, fs_2)), (q1, .inl (cI, 4000, (.inl (fun _ => 0)))), (q3, .inl (cI, 6, (.inl (fun _ => 0))))] H_7 := hP_7
  clear hP_7
  have hD_9 : va_D A [(h0, .inr (12, fs_2)), (q1, .inl (cI, 4000, (.inl (fun _ => 0)))), (q3, .inl (cI, 6, (.inl (fun _ => 0))))] := hD_7
  clear hD_7
  refine W.widen (k := 2) (n := 4006) (by decide) (by decide) ?_
  refine va_putF (D := (dC, dI)) (ci := 12) (v := .ref q3) (ty := .array (.int)) (C := RX12) (T := TX12) (N := 172) hx hb hts inq_X12_init_c12 tyX12 tyX12_ok nmX12 hown hK hP_8 hD_9 hS_7 0 rfl rfl 4 (by decide) (hts (.fieldLink RX12 13 "DiskEvidenceModel" "sectorsOf" "[I") (List.mem_of_getElem? (i := 6) rfl)) (fun _ h9 => h9) rfl hin rfl (by decide +kernel) rfl rfl (by rw [hfl_2]; decide) dX12_init_18 (fun H_10 locs_10 hP_10 hD_10 hS_10 => ?_)
  clear hP_8 hD_9 hS_7
  have hP_11 : va_P (dC, dI) vwCl [(h0, .inr (12, (fs_2.set 4 (.ref q3)))), (q1, .inl (cI, 4000, (.inl (fun _ => 0)))), (q3, .inl (cI, 6, (.inl (fun _ => 0))))] H_10 := hP_10
  clear hP_10
  have hD_12 : va_D A [(h0, .inr (12, (fs_2.set 4 (.ref q3)))), (q1, .inl (cI, 4000, (.inl (fun _ => 0)))), (q3, .inl (cI, 6, (.inl (fun _ => 0))))] := hD_10
  clear hD_10
  obtain ⟨fs_4, efs_4⟩ : ∃ y, y = (fs_2.set 4 (.ref q3)) := ⟨_, rfl⟩
  rw [← efs_4] at hP_11 hD_12
  have hfl_4 : fs_4.length = 172 := by rw [efs_4, List.length_set]; exact hfl_2
  clear hfl_2
  refine lv_aload_n hx hb dX12_init_21 rfl (lv_at hl 0 rfl) ?_
  refine lv_ldc (v := 49152) hx hb hown (hts (.constant RX12 16 (49152)) (List.mem_of_getElem? (i := 7) rfl)) dX12_init_22 ?_
  refine nw_arr (atype := .int) (N' := 49152) (a0 := (49152, (.inl (fun _ => 0)))) hx hb (hts (.arrayClass .int) (List.mem_of_getElem? (i := 4) rfl)) rfl hK 0 (cI := cI) rfl hP_11 hD_12 hS_10 hA (fun _ => rfl) (by decide) (by decide) (by decide) (Nat.le_of_ble_eq_true rfl) (Nat.le_of_ble_eq_true rfl) dX12_init_24 (fun q5 H_13 hP_13 hD_13 hS_13 => ?_)
  clear hP_11 hD_12 hS_10
  have hP_14 : va_P (dC, dI) vwCl [(h0, .inr (12, fs_4)), (q1, .inl (cI, 4000, (.inl (fun _ => 0)))), (q3, .inl (cI, 6, (.inl (fun _ => 0)))), (q5, .inl (cI, 49152, (.inl (fun _ => 0))))] H_13 := hP_13
  clear hP_13
  have hD_15 : va_D A [(h0, .inr (12, fs_4)), (q1, .inl (cI, 4000, (.inl (fun _ => 0)))), (q3, .inl (cI, 6, (.inl (fun _ => 0)))), (q5, .inl (cI, 49152, (.inl (fun _ => 0))))] := hD_13
  clear hD_13
  refine W.widen (k := 3) (n := 53158) (by decide) (by decide) ?_
  refine va_putF (D := (dC, dI)) (ci := 12) (v := .ref q5) (ty := .array (.int)) (C := RX12) (T := TX12) (N := 172) hx hb hts inq_X12_init_c12 tyX12 tyX12_ok nmX12 hown hK hP_14 hD_15 hS_13 0 rfl rfl 5 (by decide) (hts (.fieldLink RX12 17 "DiskEvidenceModel" "data" "[I") (List.mem_of_getElem? (i := 8) rfl)) (fun _ h9 => h9) rfl hin rfl (by decide +kernel) rfl rfl (by rw [hfl_4]; decide) dX12_init_26 (fun H_16 locs_16 hP_16 hD_16 hS_16 => ?_)
  clear hP_14 hD_15 hS_13
  have hP_17 : va_P (dC, dI) vwCl [(h0, .inr (12, (fs_4.set 5 (.ref q5)))), (q1, .inl (cI, 4000, (.inl (fun _ => 0)))), (q3, .inl (cI, 6, (.inl (fun _ => 0)))), (q5, .inl (cI, 49152, (.inl (fun _ => 0))))] H_16 := hP_16
  clear hP_16
  have hD_18 : va_D A [(h0, .inr (12, (fs_4.set 5 (.ref q5)))), (q1, .inl (cI, 4000, (.inl (fun _ => 0)))), (q3, .inl (cI, 6, (.inl (fun _ => 0)))), (q5, .inl (cI, 49152, (.inl (fun _ => 0))))] := hD_16
  clear hD_16
  obtain ⟨fs_6, efs_6⟩ : ∃ y, y = (fs_4.set 5 (.ref q5)) := ⟨_, rfl⟩
  rw [← efs_6] at hP_17 hD_18
  have hfl_6 : fs_6.length = 172 := by rw [efs_6, List.length_set]; exact hfl_4
  clear hfl_4
  refine lv_aload_n hx hb dX12_init_29 rfl (lv_at hl 0 rfl) ?_
  refine lv_sipush (v := 768) hx hb dX12_init_30 (by decide) ?_
  refine nw_arr (atype := .boolean) (N' := 768) (a0 := (768, (.inl (fun _ => 0)))) hx hb (hts (.arrayClass .boolean) (List.mem_of_getElem? (i := 9) rfl)) rfl hK 2 (cI := cZ) rfl hP_17 hD_18 hS_16 hA (fun _ => rfl) (by decide) (by decide) (by decide) (Nat.le_of_ble_eq_true rfl) (Nat.le_of_ble_eq_true rfl) dX12_init_33 (fun q7 H_19 hP_19 hD_19 hS_19 => ?_)
  clear hP_17 hD_18 hS_16
  have hP_20 : va_P (dC, dI) vwCl [(h0, .inr (12, fs_6)), (q1, .inl (cI, 4000, (.inl (fun _ => 0)))), (q3, .inl (cI, 6, (.inl (fun _ => 0)))), (q5, .inl (cI, 49152, (.inl (fun _ => 0)))), (q7, .inl (cZ, 768, (.inl (fun _ => 0))))] H_19 := hP_19
  clear hP_19
  have hD_21 : va_D A [(h0, .inr (12, fs_6)), (q1, .inl (cI, 4000, (.inl (fun _ => 0)))), (q3, .inl (cI, 6, (.inl (fun _ => 0)))), (q5, .inl (cI, 49152, (.inl (fun _ => 0)))), (q7, .inl (cZ, 768, (.inl (fun _ => 0))))] := hD_19
  clear hD_19
  refine W.widen (k := 4) (n := 53926) (by decide) (by decide) ?_
  refine va_putF (D := (dC, dI)) (ci := 12) (v := .ref q7) (ty := .array (.boolean)) (C := RX12) (T := TX12) (N := 172) hx hb hts inq_X12_init_c12 tyX12 tyX12_ok nmX12 hown hK hP_20 hD_21 hS_19 0 rfl rfl 6 (by decide) (hts (.fieldLink RX12 20 "DiskEvidenceModel" "isSpoilt" "[Z") (List.mem_of_getElem? (i := 10) rfl)) (fun _ h9 => h9) rfl hin rfl (by decide +kernel) rfl rfl (by rw [hfl_6]; decide) dX12_init_35 (fun H_22 locs_22 hP_22 hD_22 hS_22 => ?_)
  clear hP_20 hD_21 hS_19
  have hP_23 : va_P (dC, dI) vwCl [(h0, .inr (12, (fs_6.set 6 (.ref q7)))), (q1, .inl (cI, 4000, (.inl (fun _ => 0)))), (q3, .inl (cI, 6, (.inl (fun _ => 0)))), (q5, .inl (cI, 49152, (.inl (fun _ => 0)))), (q7, .inl (cZ, 768, (.inl (fun _ => 0))))] H_22 := hP_22
  clear hP_22
  have hD_24 : va_D A [(h0, .inr (12, (fs_6.set 6 (.ref q7)))), (q1, .inl (cI, 4000, (.inl (fun _ => 0)))), (q3, .inl (cI, 6, (.inl (fun _ => 0)))), (q5, .inl (cI, 49152, (.inl (fun _ => 0)))), (q7, .inl (cZ, 768, (.inl (fun _ => 0))))] := hD_22
  clear hD_22
  obtain ⟨fs_8, efs_8⟩ : ∃ y, y = (fs_6.set 6 (.ref q7)) := ⟨_, rfl⟩
  rw [← efs_8] at hP_23 hD_24
  have hfl_8 : fs_8.length = 172 := by rw [efs_8, List.length_set]; exact hfl_6
  clear hfl_6
  refine lv_aload_n hx hb dX12_init_38 rfl (lv_at hl 0 rfl) ?_
  refine lv_bipush (v := 12) hx hb dX12_init_39 (by decide) ?_
  refine nw_arr (atype := .int) (N' := 12) (a0 := (12, (.inl (fun _ => 0)))) hx hb (hts (.arrayClass .int) (List.mem_of_getElem? (i := 4) rfl)) rfl hK 0 (cI := cI) rfl hP_23 hD_24 hS_22 hA (fun _ => rfl) (by decide) (by decide) (by decide) (Nat.le_of_ble_eq_true rfl) (Nat.le_of_ble_eq_true rfl) dX12_init_41 (fun q9 H_25 hP_25 hD_25 hS_25 => ?_)
  clear hP_23 hD_24 hS_22
  have hP_26 : va_P (dC, dI) vwCl [(h0, .inr (12, fs_8)), (q1, .inl (cI, 4000, (.inl (fun _ => 0)))), (q3, .inl (cI, 6, (.inl (fun _ => 0)))), (q5, .inl (cI, 49152, (.inl (fun _ => 0)))), (q7, .inl (cZ, 768, (.inl (fun _ => 0)))), (q9, .inl (cI, 12, (.inl (fun _ => 0))))] H_25 := hP_25
  clear hP_25
  have hD_27 : va_D A [(h0, .inr (12, fs_8)), (q1, .inl (cI, 4000, (.inl (fun _ => 0)))), (q3, .inl (cI, 6, (.inl (fun _ => 0)))), (q5, .inl (cI, 49152, (.inl (fun _ => 0)))), (q7, .inl (cZ, 768, (.inl (fun _ => 0)))), (q9, .inl (cI, 12, (.inl (fun _ => 0))))] := hD_25
  clear hD_25
  refine W.widen (k := 5) (n := 53938) (by decide) (by decide) ?_
  refine va_putF (D := (dC, dI)) (ci := 12) (v := .ref q9) (ty := .array (.int)) (C := RX12) (T := TX12) (N := 172) hx hb hts inq_X12_init_c12 tyX12 tyX12_ok nmX12 hown hK hP_26 hD_27 hS_25 0 rfl rfl 8 (by decide) (hts (.fieldLink RX12 24 "DiskEvidenceModel" "sort" "[I") (List.mem_of_getElem? (i := 11) rfl)) (fun _ h9 => h9) rfl hin rfl (by decide +kernel) rfl rfl (by rw [hfl_8]; decide) dX12_init_43 (fun H_28 locs_28 hP_28 hD_28 hS_28 => ?_)
  clear hP_26 hD_27 hS_25
  have hP_29 : va_P (dC, dI) vwCl [(h0, .inr (12, (fs_8.set 8 (.ref q9)))), (q1, .inl (cI, 4000, (.inl (fun _ => 0)))), (q3, .inl (cI, 6, (.inl (fun _ => 0)))), (q5, .inl (cI, 49152, (.inl (fun _ => 0)))), (q7, .inl (cZ, 768, (.inl (fun _ => 0)))), (q9, .inl (cI, 12, (.inl (fun _ => 0))))] H_28 := hP_28
  clear hP_28
  have hD_30 : va_D A [(h0, .inr (12, (fs_8.set 8 (.ref q9)))), (q1, .inl (cI, 4000, (.inl (fun _ => 0)))), (q3, .inl (cI, 6, (.inl (fun _ => 0)))), (q5, .inl (cI, 49152, (.inl (fun _ => 0)))), (q7, .inl (cZ, 768, (.inl (fun _ => 0)))), (q9, .inl (cI, 12, (.inl (fun _ => 0))))] := hD_28
  clear hD_28
  obtain ⟨fs_10, efs_10⟩ : ∃ y, y = (fs_8.set 8 (.ref q9)) := ⟨_, rfl⟩
  rw [← efs_10] at hP_29 hD_30
  have hfl_10 : fs_10.length = 172 := by rw [efs_10, List.length_set]; exact hfl_8
  clear hfl_8
  have hP_31 := hP_29.sub (ws' := [(h0, .inr (12, fs_10)), (q1, .inl (cI, 4000, (.inl (fun _ => 0)))), (q3, .inl (cI, 6, (.inl (fun _ => 0)))), (q5, .inl (cI, 49152, (.inl (fun _ => 0)))), (q7, .inl (cZ, 768, (.inl (fun _ => 0))))]) [0, 1, 2, 3, 4] rfl
  clear hP_29
  have hD_32 := hD_30.sub (ws' := [(h0, .inr (12, fs_10)), (q1, .inl (cI, 4000, (.inl (fun _ => 0)))), (q3, .inl (cI, 6, (.inl (fun _ => 0)))), (q5, .inl (cI, 49152, (.inl (fun _ => 0)))), (q7, .inl (cZ, 768, (.inl (fun _ => 0))))]) [0, 1, 2, 3, 4] (by decide) rfl
  clear hD_30
  refine lv_aload_n hx hb dX12_init_46 rfl (lv_at hl 0 rfl) ?_
  refine lv_bipush (v := 12) hx hb dX12_init_47 (by decide) ?_
  refine nw_arr (atype := .int) (N' := 12) (a0 := (12, (.inl (fun _ => 0)))) hx hb (hts (.arrayClass .int) (List.mem_of_getElem? (i := 4) rfl)) rfl hK 0 (cI := cI) rfl hP_31 hD_32 hS_28 hA (fun _ => rfl) (by decide) (by decide) (by decide) (Nat.le_of_ble_eq_true rfl) (Nat.le_of_ble_eq_true rfl) dX12_init_49 (fun q11 H_33 hP_33 hD_33 hS_33 => ?_)
  clear hP_31 hD_32 hS_28
  have hP_34 : va_P (dC, dI) vwCl [(h0, .inr (12, fs_10)), (q1, .inl (cI, 4000, (.inl (fun _ => 0)))), (q3, .inl (cI, 6, (.inl (fun _ => 0)))), (q5, .inl (cI, 49152, (.inl (fun _ => 0)))), (q7, .inl (cZ, 768, (.inl (fun _ => 0)))), (q11, .inl (cI, 12, (.inl (fun _ => 0))))] H_33 := hP_33
  clear hP_33
  have hD_35 : va_D A [(h0, .inr (12, fs_10)), (q1, .inl (cI, 4000, (.inl (fun _ => 0)))), (q3, .inl (cI, 6, (.inl (fun _ => 0)))), (q5, .inl (cI, 49152, (.inl (fun _ => 0)))), (q7, .inl (cZ, 768, (.inl (fun _ => 0)))), (q11, .inl (cI, 12, (.inl (fun _ => 0))))] := hD_33
  clear hD_33
  refine W.widen (k := 6) (n := 53950) (by decide) (by decide) ?_
  refine va_putF (D := (dC, dI)) (ci := 12) (v := .ref q11) (ty := .array (.int)) (C := RX12) (T := TX12) (N := 172) hx hb hts inq_X12_init_c12 tyX12 tyX12_ok nmX12 hown hK hP_34 hD_35 hS_33 0 rfl rfl 9 (by decide) (hts (.fieldLink RX12 27 "DiskEvidenceModel" "pictureOf" "[I") (List.mem_of_getElem? (i := 12) rfl)) (fun _ h9 => h9) rfl hin rfl (by decide +kernel) rfl rfl (by rw [hfl_10]; decide) dX12_init_51 (fun H_36 locs_36 hP_36 hD_36 hS_36 => ?_)
  clear hP_34 hD_35 hS_33
  have hP_37 : va_P (dC, dI) vwCl [(h0, .inr (12, (fs_10.set 9 (.ref q11)))), (q1, .inl (cI, 4000, (.inl (fun _ => 0)))), (q3, .inl (cI, 6, (.inl (fun _ => 0)))), (q5, .inl (cI, 49152, (.inl (fun _ => 0)))), (q7, .inl (cZ, 768, (.inl (fun _ => 0)))), (q11, .inl (cI, 12, (.inl (fun _ => 0))))] H_36 := hP_36
  clear hP_36
  have hD_38 : va_D A [(h0, .inr (12, (fs_10.set 9 (.ref q11)))), (q1, .inl (cI, 4000, (.inl (fun _ => 0)))), (q3, .inl (cI, 6, (.inl (fun _ => 0)))), (q5, .inl (cI, 49152, (.inl (fun _ => 0)))), (q7, .inl (cZ, 768, (.inl (fun _ => 0)))), (q11, .inl (cI, 12, (.inl (fun _ => 0))))] := hD_36
  clear hD_36
  obtain ⟨fs_12, efs_12⟩ : ∃ y, y = (fs_10.set 9 (.ref q11)) := ⟨_, rfl⟩
  rw [← efs_12] at hP_37 hD_38
  have hfl_12 : fs_12.length = 172 := by rw [efs_12, List.length_set]; exact hfl_10
  clear hfl_10
  have hP_39 := hP_37.sub (ws' := [(h0, .inr (12, fs_12)), (q1, .inl (cI, 4000, (.inl (fun _ => 0)))), (q3, .inl (cI, 6, (.inl (fun _ => 0)))), (q5, .inl (cI, 49152, (.inl (fun _ => 0)))), (q7, .inl (cZ, 768, (.inl (fun _ => 0))))]) [0, 1, 2, 3, 4] rfl
  clear hP_37
  have hD_40 := hD_38.sub (ws' := [(h0, .inr (12, fs_12)), (q1, .inl (cI, 4000, (.inl (fun _ => 0)))), (q3, .inl (cI, 6, (.inl (fun _ => 0)))), (q5, .inl (cI, 49152, (.inl (fun _ => 0)))), (q7, .inl (cZ, 768, (.inl (fun _ => 0))))]) [0, 1, 2, 3, 4] (by decide) rfl
  clear hD_38
  refine lv_aload_n hx hb dX12_init_54 rfl (lv_at hl 0 rfl) ?_
  refine lv_bipush (v := 12) hx hb dX12_init_55 (by decide) ?_
  refine nw_arr (atype := .int) (N' := 12) (a0 := (12, (.inl (fun _ => 0)))) hx hb (hts (.arrayClass .int) (List.mem_of_getElem? (i := 4) rfl)) rfl hK 0 (cI := cI) rfl hP_39 hD_40 hS_36 hA (fun _ => rfl) (by decide) (by decide) (by decide) (Nat.le_of_ble_eq_true rfl) (Nat.le_of_ble_eq_true rfl) dX12_init_57 (fun q13 H_41 hP_41 hD_41 hS_41 => ?_)
  clear hP_39 hD_40 hS_36
  have hP_42 : va_P (dC, dI) vwCl [(h0, .inr (12, fs_12)), (q1, .inl (cI, 4000, (.inl (fun _ => 0)))), (q3, .inl (cI, 6, (.inl (fun _ => 0)))), (q5, .inl (cI, 49152, (.inl (fun _ => 0)))), (q7, .inl (cZ, 768, (.inl (fun _ => 0)))), (q13, .inl (cI, 12, (.inl (fun _ => 0))))] H_41 := hP_41
  clear hP_41
  have hD_43 : va_D A [(h0, .inr (12, fs_12)), (q1, .inl (cI, 4000, (.inl (fun _ => 0)))), (q3, .inl (cI, 6, (.inl (fun _ => 0)))), (q5, .inl (cI, 49152, (.inl (fun _ => 0)))), (q7, .inl (cZ, 768, (.inl (fun _ => 0)))), (q13, .inl (cI, 12, (.inl (fun _ => 0))))] := hD_41
  clear hD_41
  refine W.widen (k := 7) (n := 53962) (by decide) (by decide) ?_
  refine va_putF (D := (dC, dI)) (ci := 12) (v := .ref q13) (ty := .array (.int)) (C := RX12) (T := TX12) (N := 172) hx hb hts inq_X12_init_c12 tyX12 tyX12_ok nmX12 hown hK hP_42 hD_43 hS_41 0 rfl rfl 10 (by decide) (hts (.fieldLink RX12 30 "DiskEvidenceModel" "beginOf" "[I") (List.mem_of_getElem? (i := 13) rfl)) (fun _ h9 => h9) rfl hin rfl (by decide +kernel) rfl rfl (by rw [hfl_12]; decide) dX12_init_59 (fun H_44 locs_44 hP_44 hD_44 hS_44 => ?_)
  clear hP_42 hD_43 hS_41
  have hP_45 : va_P (dC, dI) vwCl [(h0, .inr (12, (fs_12.set 10 (.ref q13)))), (q1, .inl (cI, 4000, (.inl (fun _ => 0)))), (q3, .inl (cI, 6, (.inl (fun _ => 0)))), (q5, .inl (cI, 49152, (.inl (fun _ => 0)))), (q7, .inl (cZ, 768, (.inl (fun _ => 0)))), (q13, .inl (cI, 12, (.inl (fun _ => 0))))] H_44 := hP_44
  clear hP_44
  have hD_46 : va_D A [(h0, .inr (12, (fs_12.set 10 (.ref q13)))), (q1, .inl (cI, 4000, (.inl (fun _ => 0)))), (q3, .inl (cI, 6, (.inl (fun _ => 0)))), (q5, .inl (cI, 49152, (.inl (fun _ => 0)))), (q7, .inl (cZ, 768, (.inl (fun _ => 0)))), (q13, .inl (cI, 12, (.inl (fun _ => 0))))] := hD_44
  clear hD_44
  obtain ⟨fs_14, efs_14⟩ : ∃ y, y = (fs_12.set 10 (.ref q13)) := ⟨_, rfl⟩
  rw [← efs_14] at hP_45 hD_46
  have hfl_14 : fs_14.length = 172 := by rw [efs_14, List.length_set]; exact hfl_12
  clear hfl_12
  have hP_47 := hP_45.sub (ws' := [(h0, .inr (12, fs_14)), (q1, .inl (cI, 4000, (.inl (fun _ => 0)))), (q3, .inl (cI, 6, (.inl (fun _ => 0)))), (q5, .inl (cI, 49152, (.inl (fun _ => 0)))), (q7, .inl (cZ, 768, (.inl (fun _ => 0))))]) [0, 1, 2, 3, 4] rfl
  clear hP_45
  have hD_48 := hD_46.sub (ws' := [(h0, .inr (12, fs_14)), (q1, .inl (cI, 4000, (.inl (fun _ => 0)))), (q3, .inl (cI, 6, (.inl (fun _ => 0)))), (q5, .inl (cI, 49152, (.inl (fun _ => 0)))), (q7, .inl (cZ, 768, (.inl (fun _ => 0))))]) [0, 1, 2, 3, 4] (by decide) rfl
  clear hD_46
  refine lv_aload_n hx hb dX12_init_62 rfl (lv_at hl 0 rfl) ?_
  refine lv_bipush (v := 12) hx hb dX12_init_63 (by decide) ?_
  refine nw_arr (atype := .int) (N' := 12) (a0 := (12, (.inl (fun _ => 0)))) hx hb (hts (.arrayClass .int) (List.mem_of_getElem? (i := 4) rfl)) rfl hK 0 (cI := cI) rfl hP_47 hD_48 hS_44 hA (fun _ => rfl) (by decide) (by decide) (by decide) (Nat.le_of_ble_eq_true rfl) (Nat.le_of_ble_eq_true rfl) dX12_init_65 (fun q15 H_49 hP_49 hD_49 hS_49 => ?_)
  clear hP_47 hD_48 hS_44
  have hP_50 : va_P (dC, dI) vwCl [(h0, .inr (12, fs_14)), (q1, .inl (cI, 4000, (.inl (fun _ => 0)))), (q3, .inl (cI, 6, (.inl (fun _ => 0)))), (q5, .inl (cI, 49152, (.inl (fun _ => 0)))), (q7, .inl (cZ, 768, (.inl (fun _ => 0)))), (q15, .inl (cI, 12, (.inl (fun _ => 0))))] H_49 := hP_49
  clear hP_49
  have hD_51 : va_D A [(h0, .inr (12, fs_14)), (q1, .inl (cI, 4000, (.inl (fun _ => 0)))), (q3, .inl (cI, 6, (.inl (fun _ => 0)))), (q5, .inl (cI, 49152, (.inl (fun _ => 0)))), (q7, .inl (cZ, 768, (.inl (fun _ => 0)))), (q15, .inl (cI, 12, (.inl (fun _ => 0))))] := hD_49
  clear hD_49
  refine W.widen (k := 8) (n := 53974) (by decide) (by decide) ?_
  refine va_putF (D := (dC, dI)) (ci := 12) (v := .ref q15) (ty := .array (.int)) (C := RX12) (T := TX12) (N := 172) hx hb hts inq_X12_init_c12 tyX12 tyX12_ok nmX12 hown hK hP_50 hD_51 hS_49 0 rfl rfl 11 (by decide) (hts (.fieldLink RX12 33 "DiskEvidenceModel" "blocksOf" "[I") (List.mem_of_getElem? (i := 14) rfl)) (fun _ h9 => h9) rfl hin rfl (by decide +kernel) rfl rfl (by rw [hfl_14]; decide) dX12_init_67 (fun H_52 locs_52 hP_52 hD_52 hS_52 => ?_)
  clear hP_50 hD_51 hS_49
  have hP_53 : va_P (dC, dI) vwCl [(h0, .inr (12, (fs_14.set 11 (.ref q15)))), (q1, .inl (cI, 4000, (.inl (fun _ => 0)))), (q3, .inl (cI, 6, (.inl (fun _ => 0)))), (q5, .inl (cI, 49152, (.inl (fun _ => 0)))), (q7, .inl (cZ, 768, (.inl (fun _ => 0)))), (q15, .inl (cI, 12, (.inl (fun _ => 0))))] H_52 := hP_52
  clear hP_52
  have hD_54 : va_D A [(h0, .inr (12, (fs_14.set 11 (.ref q15)))), (q1, .inl (cI, 4000, (.inl (fun _ => 0)))), (q3, .inl (cI, 6, (.inl (fun _ => 0)))), (q5, .inl (cI, 49152, (.inl (fun _ => 0)))), (q7, .inl (cZ, 768, (.inl (fun _ => 0)))), (q15, .inl (cI, 12, (.inl (fun _ => 0))))] := hD_52
  clear hD_52
  obtain ⟨fs_16, efs_16⟩ : ∃ y, y = (fs_14.set 11 (.ref q15)) := ⟨_, rfl⟩
  rw [← efs_16] at hP_53 hD_54
  have hfl_16 : fs_16.length = 172 := by rw [efs_16, List.length_set]; exact hfl_14
  clear hfl_14
  have hP_55 := hP_53.sub (ws' := [(h0, .inr (12, fs_16)), (q1, .inl (cI, 4000, (.inl (fun _ => 0)))), (q3, .inl (cI, 6, (.inl (fun _ => 0)))), (q5, .inl (cI, 49152, (.inl (fun _ => 0)))), (q7, .inl (cZ, 768, (.inl (fun _ => 0))))]) [0, 1, 2, 3, 4] rfl
  clear hP_53
  have hD_56 := hD_54.sub (ws' := [(h0, .inr (12, fs_16)), (q1, .inl (cI, 4000, (.inl (fun _ => 0)))), (q3, .inl (cI, 6, (.inl (fun _ => 0)))), (q5, .inl (cI, 49152, (.inl (fun _ => 0)))), (q7, .inl (cZ, 768, (.inl (fun _ => 0))))]) [0, 1, 2, 3, 4] (by decide) rfl
  clear hD_54
  refine lv_aload_n hx hb dX12_init_70 rfl (lv_at hl 0 rfl) ?_
  refine lv_bipush (v := 36) hx hb dX12_init_71 (by decide) ?_
  refine nw_arr (atype := .int) (N' := 36) (a0 := (36, (.inl (fun _ => 0)))) hx hb (hts (.arrayClass .int) (List.mem_of_getElem? (i := 4) rfl)) rfl hK 0 (cI := cI) rfl hP_55 hD_56 hS_52 hA (fun _ => rfl) (by decide) (by decide) (by decide) (Nat.le_of_ble_eq_true rfl) (Nat.le_of_ble_eq_true rfl) dX12_init_73 (fun q17 H_57 hP_57 hD_57 hS_57 => ?_)
  clear hP_55 hD_56 hS_52
  have hP_58 : va_P (dC, dI) vwCl [(h0, .inr (12, fs_16)), (q1, .inl (cI, 4000, (.inl (fun _ => 0)))), (q3, .inl (cI, 6, (.inl (fun _ => 0)))), (q5, .inl (cI, 49152, (.inl (fun _ => 0)))), (q7, .inl (cZ, 768, (.inl (fun _ => 0)))), (q17, .inl (cI, 36, (.inl (fun _ => 0))))] H_57 := hP_57
  clear hP_57
  have hD_59 : va_D A [(h0, .inr (12, fs_16)), (q1, .inl (cI, 4000, (.inl (fun _ => 0)))), (q3, .inl (cI, 6, (.inl (fun _ => 0)))), (q5, .inl (cI, 49152, (.inl (fun _ => 0)))), (q7, .inl (cZ, 768, (.inl (fun _ => 0)))), (q17, .inl (cI, 36, (.inl (fun _ => 0))))] := hD_57
  clear hD_57
  refine W.widen (k := 9) (n := 54010) (by decide) (by decide) ?_
  refine va_putF (D := (dC, dI)) (ci := 12) (v := .ref q17) (ty := .array (.int)) (C := RX12) (T := TX12) (N := 172) hx hb hts inq_X12_init_c12 tyX12 tyX12_ok nmX12 hown hK hP_58 hD_59 hS_57 0 rfl rfl 12 (by decide) (hts (.fieldLink RX12 36 "DiskEvidenceModel" "members" "[I") (List.mem_of_getElem? (i := 15) rfl)) (fun _ h9 => h9) rfl hin rfl (by decide +kernel) rfl rfl (by rw [hfl_16]; decide) dX12_init_75 (fun H_60 locs_60 hP_60 hD_60 hS_60 => ?_)
  clear hP_58 hD_59 hS_57
  have hP_61 : va_P (dC, dI) vwCl [(h0, .inr (12, (fs_16.set 12 (.ref q17)))), (q1, .inl (cI, 4000, (.inl (fun _ => 0)))), (q3, .inl (cI, 6, (.inl (fun _ => 0)))), (q5, .inl (cI, 49152, (.inl (fun _ => 0)))), (q7, .inl (cZ, 768, (.inl (fun _ => 0)))), (q17, .inl (cI, 36, (.inl (fun _ => 0))))] H_60 := hP_60
  clear hP_60
  have hD_62 : va_D A [(h0, .inr (12, (fs_16.set 12 (.ref q17)))), (q1, .inl (cI, 4000, (.inl (fun _ => 0)))), (q3, .inl (cI, 6, (.inl (fun _ => 0)))), (q5, .inl (cI, 49152, (.inl (fun _ => 0)))), (q7, .inl (cZ, 768, (.inl (fun _ => 0)))), (q17, .inl (cI, 36, (.inl (fun _ => 0))))] := hD_60
  clear hD_60
  obtain ⟨fs_18, efs_18⟩ : ∃ y, y = (fs_16.set 12 (.ref q17)) := ⟨_, rfl⟩
  rw [← efs_18] at hP_61 hD_62
  have hfl_18 : fs_18.length = 172 := by rw [efs_18, List.length_set]; exact hfl_16
  clear hfl_16
  have hP_63 := hP_61.sub (ws' := [(h0, .inr (12, fs_18)), (q1, .inl (cI, 4000, (.inl (fun _ => 0)))), (q3, .inl (cI, 6, (.inl (fun _ => 0)))), (q5, .inl (cI, 49152, (.inl (fun _ => 0)))), (q7, .inl (cZ, 768, (.inl (fun _ => 0))))]) [0, 1, 2, 3, 4] rfl
  clear hP_61
  have hD_64 := hD_62.sub (ws' := [(h0, .inr (12, fs_18)), (q1, .inl (cI, 4000, (.inl (fun _ => 0)))), (q3, .inl (cI, 6, (.inl (fun _ => 0)))), (q5, .inl (cI, 49152, (.inl (fun _ => 0)))), (q7, .inl (cZ, 768, (.inl (fun _ => 0))))]) [0, 1, 2, 3, 4] (by decide) rfl
  clear hD_62
  refine lv_aload_n hx hb dX12_init_78 rfl (lv_at hl 0 rfl) ?_
  refine lv_ldc (v := 196608) hx hb hown (hts (.constant RX12 39 (196608)) (List.mem_of_getElem? (i := 16) rfl)) dX12_init_79 ?_
  refine nw_arr (atype := .int) (N' := 196608) (a0 := (196608, (.inl (fun _ => 0)))) hx hb (hts (.arrayClass .int) (List.mem_of_getElem? (i := 4) rfl)) rfl hK 0 (cI := cI) rfl hP_63 hD_64 hS_60 hA (fun _ => rfl) (by decide) (by decide) (by decide) (Nat.le_of_ble_eq_true rfl) (Nat.le_of_ble_eq_true rfl) dX12_init_81 (fun q19 H_65 hP_65 hD_65 hS_65 => ?_)
  clear hP_63 hD_64 hS_60
  have hP_66 : va_P (dC, dI) vwCl [(h0, .inr (12, fs_18)), (q1, .inl (cI, 4000, (.inl (fun _ => 0)))), (q3, .inl (cI, 6, (.inl (fun _ => 0)))), (q5, .inl (cI, 49152, (.inl (fun _ => 0)))), (q7, .inl (cZ, 768, (.inl (fun _ => 0)))), (q19, .inl (cI, 196608, (.inl (fun _ => 0))))] H_65 := hP_65
  clear hP_65
  have hD_67 : va_D A [(h0, .inr (12, fs_18)), (q1, .inl (cI, 4000, (.inl (fun _ => 0)))), (q3, .inl (cI, 6, (.inl (fun _ => 0)))), (q5, .inl (cI, 49152, (.inl (fun _ => 0)))), (q7, .inl (cZ, 768, (.inl (fun _ => 0)))), (q19, .inl (cI, 196608, (.inl (fun _ => 0))))] := hD_65
  clear hD_65
  refine W.widen (k := 10) (n := 250618) (by decide) (by decide) ?_
  refine va_putF (D := (dC, dI)) (ci := 12) (v := .ref q19) (ty := .array (.int)) (C := RX12) (T := TX12) (N := 172) hx hb hts inq_X12_init_c12 tyX12 tyX12_ok nmX12 hown hK hP_66 hD_67 hS_65 0 rfl rfl 13 (by decide) (hts (.fieldLink RX12 40 "DiskEvidenceModel" "all" "[I") (List.mem_of_getElem? (i := 17) rfl)) (fun _ h9 => h9) rfl hin rfl (by decide +kernel) rfl rfl (by rw [hfl_18]; decide) dX12_init_83 (fun H_68 locs_68 hP_68 hD_68 hS_68 => ?_)
  clear hP_66 hD_67 hS_65
  have hP_69 : va_P (dC, dI) vwCl [(h0, .inr (12, (fs_18.set 13 (.ref q19)))), (q1, .inl (cI, 4000, (.inl (fun _ => 0)))), (q3, .inl (cI, 6, (.inl (fun _ => 0)))), (q5, .inl (cI, 49152, (.inl (fun _ => 0)))), (q7, .inl (cZ, 768, (.inl (fun _ => 0)))), (q19, .inl (cI, 196608, (.inl (fun _ => 0))))] H_68 := hP_68
  clear hP_68
  have hD_70 : va_D A [(h0, .inr (12, (fs_18.set 13 (.ref q19)))), (q1, .inl (cI, 4000, (.inl (fun _ => 0)))), (q3, .inl (cI, 6, (.inl (fun _ => 0)))), (q5, .inl (cI, 49152, (.inl (fun _ => 0)))), (q7, .inl (cZ, 768, (.inl (fun _ => 0)))), (q19, .inl (cI, 196608, (.inl (fun _ => 0))))] := hD_68
  clear hD_68
  obtain ⟨fs_20, efs_20⟩ : ∃ y, y = (fs_18.set 13 (.ref q19)) := ⟨_, rfl⟩
  rw [← efs_20] at hP_69 hD_70
  have hfl_20 : fs_20.length = 172 := by rw [efs_20, List.length_set]; exact hfl_18
  clear hfl_18
  have hP_71 := hP_69.sub (ws' := [(h0, .inr (12, fs_20)), (q1, .inl (cI, 4000, (.inl (fun _ => 0)))), (q3, .inl (cI, 6, (.inl (fun _ => 0)))), (q5, .inl (cI, 49152, (.inl (fun _ => 0)))), (q7, .inl (cZ, 768, (.inl (fun _ => 0))))]) [0, 1, 2, 3, 4] rfl
  clear hP_69
  have hD_72 := hD_70.sub (ws' := [(h0, .inr (12, fs_20)), (q1, .inl (cI, 4000, (.inl (fun _ => 0)))), (q3, .inl (cI, 6, (.inl (fun _ => 0)))), (q5, .inl (cI, 49152, (.inl (fun _ => 0)))), (q7, .inl (cZ, 768, (.inl (fun _ => 0))))]) [0, 1, 2, 3, 4] (by decide) rfl
  clear hD_70
  refine lv_aload_n hx hb dX12_init_86 rfl (lv_at hl 0 rfl) ?_
  refine lv_sipush (v := 3072) hx hb dX12_init_87 (by decide) ?_
  refine nw_arr (atype := .boolean) (N' := 3072) (a0 := (3072, (.inl (fun _ => 0)))) hx hb (hts (.arrayClass .boolean) (List.mem_of_getElem? (i := 9) rfl)) rfl hK 2 (cI := cZ) rfl hP_71 hD_72 hS_68 hA (fun _ => rfl) (by decide) (by decide) (by decide) (Nat.le_of_ble_eq_true rfl) (Nat.le_of_ble_eq_true rfl) dX12_init_90 (fun q21 H_73 hP_73 hD_73 hS_73 => ?_)
  clear hP_71 hD_72 hS_68
  have hP_74 : va_P (dC, dI) vwCl [(h0, .inr (12, fs_20)), (q1, .inl (cI, 4000, (.inl (fun _ => 0)))), (q3, .inl (cI, 6, (.inl (fun _ => 0)))), (q5, .inl (cI, 49152, (.inl (fun _ => 0)))), (q7, .inl (cZ, 768, (.inl (fun _ => 0)))), (q21, .inl (cZ, 3072, (.inl (fun _ => 0))))] H_73 := hP_73
  clear hP_73
  have hD_75 : va_D A [(h0, .inr (12, fs_20)), (q1, .inl (cI, 4000, (.inl (fun _ => 0)))), (q3, .inl (cI, 6, (.inl (fun _ => 0)))), (q5, .inl (cI, 49152, (.inl (fun _ => 0)))), (q7, .inl (cZ, 768, (.inl (fun _ => 0)))), (q21, .inl (cZ, 3072, (.inl (fun _ => 0))))] := hD_73
  clear hD_73
  refine W.widen (k := 11) (n := 253690) (by decide) (by decide) ?_
  refine va_putF (D := (dC, dI)) (ci := 12) (v := .ref q21) (ty := .array (.boolean)) (C := RX12) (T := TX12) (N := 172) hx hb hts inq_X12_init_c12 tyX12 tyX12_ok nmX12 hown hK hP_74 hD_75 hS_73 0 rfl rfl 14 (by decide) (hts (.fieldLink RX12 43 "DiskEvidenceModel" "comesSpoilt" "[Z") (List.mem_of_getElem? (i := 18) rfl)) (fun _ h9 => h9) rfl hin rfl (by decide +kernel) rfl rfl (by rw [hfl_20]; decide) dX12_init_92 (fun H_76 locs_76 hP_76 hD_76 hS_76 => ?_)
  clear hP_74 hD_75 hS_73
  have hP_77 : va_P (dC, dI) vwCl [(h0, .inr (12, (fs_20.set 14 (.ref q21)))), (q1, .inl (cI, 4000, (.inl (fun _ => 0)))), (q3, .inl (cI, 6, (.inl (fun _ => 0)))), (q5, .inl (cI, 49152, (.inl (fun _ => 0)))), (q7, .inl (cZ, 768, (.inl (fun _ => 0)))), (q21, .inl (cZ, 3072, (.inl (fun _ => 0))))] H_76 := hP_76
  clear hP_76
  have hD_78 : va_D A [(h0, .inr (12, (fs_20.set 14 (.ref q21)))), (q1, .inl (cI, 4000, (.inl (fun _ => 0)))), (q3, .inl (cI, 6, (.inl (fun _ => 0)))), (q5, .inl (cI, 49152, (.inl (fun _ => 0)))), (q7, .inl (cZ, 768, (.inl (fun _ => 0)))), (q21, .inl (cZ, 3072, (.inl (fun _ => 0))))] := hD_76
  clear hD_76
  obtain ⟨fs_22, efs_22⟩ : ∃ y, y = (fs_20.set 14 (.ref q21)) := ⟨_, rfl⟩
  rw [← efs_22] at hP_77 hD_78
  have hfl_22 : fs_22.length = 172 := by rw [efs_22, List.length_set]; exact hfl_20
  clear hfl_20
  have hP_79 := hP_77.sub (ws' := [(h0, .inr (12, fs_22)), (q1, .inl (cI, 4000, (.inl (fun _ => 0)))), (q3, .inl (cI, 6, (.inl (fun _ => 0)))), (q5, .inl (cI, 49152, (.inl (fun _ => 0)))), (q7, .inl (cZ, 768, (.inl (fun _ => 0))))]) [0, 1, 2, 3, 4] rfl
  clear hP_77
  have hD_80 := hD_78.sub (ws' := [(h0, .inr (12, fs_22)), (q1, .inl (cI, 4000, (.inl (fun _ => 0)))), (q3, .inl (cI, 6, (.inl (fun _ => 0)))), (q5, .inl (cI, 49152, (.inl (fun _ => 0)))), (q7, .inl (cZ, 768, (.inl (fun _ => 0))))]) [0, 1, 2, 3, 4] (by decide) rfl
  clear hD_78
  refine lv_aload_n hx hb dX12_init_95 rfl (lv_at hl 0 rfl) ?_
  refine lv_iconst (v := 1) hx hb dX12_init_96 (by decide) ?_
  refine va_put (D := (dC, dI)) (ci := 12) (v := .int 1) (ty := .boolean) (C := RX12) (T := TX12) (N := 172) hx hb hts inq_X12_init_c12 tyX12 tyX12_ok nmX12 hown hK hP_79 hD_80 hS_76 0 rfl rfl 15 (by decide) (hts (.fieldLink RX12 46 "DiskEvidenceModel" "isOld" "Z") (List.mem_of_getElem? (i := 19) rfl)) (fun _ h9 => h9) rfl (by decide +kernel) rfl rfl (by rw [hfl_22]; decide) dX12_init_97 (fun H_81 locs_81 hP_81 hD_81 hS_81 => ?_)
  clear hP_79 hD_80 hS_76
  have hP_82 : va_P (dC, dI) vwCl [(h0, .inr (12, (fs_22.set 15 (.int 1)))), (q1, .inl (cI, 4000, (.inl (fun _ => 0)))), (q3, .inl (cI, 6, (.inl (fun _ => 0)))), (q5, .inl (cI, 49152, (.inl (fun _ => 0)))), (q7, .inl (cZ, 768, (.inl (fun _ => 0))))] H_81 := hP_81
  clear hP_81
  have hD_83 : va_D A [(h0, .inr (12, (fs_22.set 15 (.int 1)))), (q1, .inl (cI, 4000, (.inl (fun _ => 0)))), (q3, .inl (cI, 6, (.inl (fun _ => 0)))), (q5, .inl (cI, 49152, (.inl (fun _ => 0)))), (q7, .inl (cZ, 768, (.inl (fun _ => 0))))] := hD_81
  clear hD_81
  obtain ⟨fs_23, efs_23⟩ : ∃ y, y = (fs_22.set 15 (.int 1)) := ⟨_, rfl⟩
  rw [← efs_23] at hP_82 hD_83
  have hfl_23 : fs_23.length = 172 := by rw [efs_23, List.length_set]; exact hfl_22
  clear hfl_22
  have el_23 : fs_23 = [.int 0, .ref q1, .int 0, .int 0, .ref q3, .ref q5, .ref q7, .int 0, .ref q9, .ref q11, .ref q13, .ref q15, .ref q17, .ref q19, .ref q21, .int 1, .int 0, .null, .null, .int 0, .int 0, .null, .null, .null, .null, .null, .int 0, .null, .null, .int 0, .int 0, .null, .null, .null, .int 0, .null, .null, .null, .null, .int 0, .int 0, .int 0, .int 0, .int 0, .int 0, .int 0, .int 0, .int 0, .int 0, .int 0, .null, .null, .int 0, .int 0, .null, .int 0, .int 0, .int 0, .int 0, .int 0, .null, .null, .null, .null, .null, .null, .null, .null, .null, .null, .null, .null, .null, .null, .null, .null, .null, .null, .null, .null, .null, .null, .null, .null, .null, .null, .null, .null, .null, .null, .null, .int 0, .int 0, .int 0, .null, .null, .null, .int 0, .null, .null, .null, .null, .int 0, .null, .null, .null, .int 0, .int 0, .int 0, .int 0, .int 0, .null, .null, .null, .null, .null, .null, .null, .null, .null, .int 0, .null, .int 0, .null, .int 0, .null, .null, .null, .int 0, .int 0, .null, .null, .null, .null, .null, .int 0, .int 0, .int 0, .null, .int 0, .null, .int 0, .null, .null, .null, .null, .int 0, .int 0, .null, .int 0, .null, .int 0, .null, .null, .null, .null, .null, .int 0, .null, .null, .null, .int 0, .null, .null, .null, .null, .null, .int 0, .null, .null, .null, .null] := by rw [efs_23, efs_22, efs_20, efs_18, efs_16, efs_14, efs_12, efs_10, efs_8, efs_6, efs_4, efs_2]; rfl
  clear efs_2 efs_4 efs_6 efs_8 efs_10 efs_12 efs_14 efs_16 efs_18 efs_20 efs_22 efs_23
  refine lv_aload_n hx hb dX12_init_100 rfl (lv_at hl 0 rfl) ?_
  refine lv_sipush (v := 768) hx hb dX12_init_101 (by decide) ?_
  refine nw_arr (atype := .boolean) (N' := 768) (a0 := (768, (.inl (fun _ => 0)))) hx hb (hts (.arrayClass .boolean) (List.mem_of_getElem? (i := 9) rfl)) rfl hK 2 (cI := cZ) rfl hP_82 hD_83 hS_81 hA (fun _ => rfl) (by decide) (by decide) (by decide) (Nat.le_of_ble_eq_true rfl) (Nat.le_of_ble_eq_true rfl) dX12_init_104 (fun q24 H_84 hP_84 hD_84 hS_84 => ?_)
  clear hP_82 hD_83 hS_81
  have hP_85 : va_P (dC, dI) vwCl [(h0, .inr (12, fs_23)), (q1, .inl (cI, 4000, (.inl (fun _ => 0)))), (q3, .inl (cI, 6, (.inl (fun _ => 0)))), (q5, .inl (cI, 49152, (.inl (fun _ => 0)))), (q7, .inl (cZ, 768, (.inl (fun _ => 0)))), (q24, .inl (cZ, 768, (.inl (fun _ => 0))))] H_84 := hP_84
  clear hP_84
  have hD_86 : va_D A [(h0, .inr (12, fs_23)), (q1, .inl (cI, 4000, (.inl (fun _ => 0)))), (q3, .inl (cI, 6, (.inl (fun _ => 0)))), (q5, .inl (cI, 49152, (.inl (fun _ => 0)))), (q7, .inl (cZ, 768, (.inl (fun _ => 0)))), (q24, .inl (cZ, 768, (.inl (fun _ => 0))))] := hD_84
  clear hD_84
  refine W.widen (k := 12) (n := 254458) (by decide) (by decide) ?_
  refine va_putF (D := (dC, dI)) (ci := 12) (v := .ref q24) (ty := .array (.boolean)) (C := RX12) (T := TX12) (N := 172) hx hb hts inq_X12_init_c12 tyX12 tyX12_ok nmX12 hown hK hP_85 hD_86 hS_84 0 rfl rfl 17 (by decide) (hts (.fieldLink RX12 50 "DiskEvidenceModel" "sectorChanged" "[Z") (List.mem_of_getElem? (i := 20) rfl)) (fun _ h9 => h9) rfl hin rfl (by decide +kernel) rfl rfl (by rw [hfl_23]; decide) dX12_init_106 (fun H_87 locs_87 hP_87 hD_87 hS_87 => ?_)
  clear hP_85 hD_86 hS_84
  have hP_88 : va_P (dC, dI) vwCl [(h0, .inr (12, (fs_23.set 17 (.ref q24)))), (q1, .inl (cI, 4000, (.inl (fun _ => 0)))), (q3, .inl (cI, 6, (.inl (fun _ => 0)))), (q5, .inl (cI, 49152, (.inl (fun _ => 0)))), (q7, .inl (cZ, 768, (.inl (fun _ => 0)))), (q24, .inl (cZ, 768, (.inl (fun _ => 0))))] H_87 := hP_87
  clear hP_87
  have hD_89 : va_D A [(h0, .inr (12, (fs_23.set 17 (.ref q24)))), (q1, .inl (cI, 4000, (.inl (fun _ => 0)))), (q3, .inl (cI, 6, (.inl (fun _ => 0)))), (q5, .inl (cI, 49152, (.inl (fun _ => 0)))), (q7, .inl (cZ, 768, (.inl (fun _ => 0)))), (q24, .inl (cZ, 768, (.inl (fun _ => 0))))] := hD_87
  clear hD_87
  obtain ⟨fs_25, efs_25⟩ : ∃ y, y = (fs_23.set 17 (.ref q24)) := ⟨_, rfl⟩
  rw [← efs_25] at hP_88 hD_89
  have hfl_25 : fs_25.length = 172 := by rw [efs_25, List.length_set]; exact hfl_23
  clear hfl_23
  have hP_90 := hP_88.sub (ws' := [(h0, .inr (12, fs_25)), (q1, .inl (cI, 4000, (.inl (fun _ => 0)))), (q3, .inl (cI, 6, (.inl (fun _ => 0)))), (q5, .inl (cI, 49152, (.inl (fun _ => 0)))), (q7, .inl (cZ, 768, (.inl (fun _ => 0))))]) [0, 1, 2, 3, 4] rfl
  clear hP_88
  have hD_91 := hD_89.sub (ws' := [(h0, .inr (12, fs_25)), (q1, .inl (cI, 4000, (.inl (fun _ => 0)))), (q3, .inl (cI, 6, (.inl (fun _ => 0)))), (q5, .inl (cI, 49152, (.inl (fun _ => 0)))), (q7, .inl (cZ, 768, (.inl (fun _ => 0))))]) [0, 1, 2, 3, 4] (by decide) rfl
  clear hD_89
  refine lv_aload_n hx hb dX12_init_109 rfl (lv_at hl 0 rfl) ?_
  refine lv_sipush (v := 3072) hx hb dX12_init_110 (by decide) ?_
  refine nw_arr (atype := .boolean) (N' := 3072) (a0 := (3072, (.inl (fun _ => 0)))) hx hb (hts (.arrayClass .boolean) (List.mem_of_getElem? (i := 9) rfl)) rfl hK 2 (cI := cZ) rfl hP_90 hD_91 hS_87 hA (fun _ => rfl) (by decide) (by decide) (by decide) (Nat.le_of_ble_eq_true rfl) (Nat.le_of_ble_eq_true rfl) dX12_init_113 (fun q26 H_92 hP_92 hD_92 hS_92 => ?_)
  clear hP_90 hD_91 hS_87
  have hP_93 : va_P (dC, dI) vwCl [(h0, .inr (12, fs_25)), (q1, .inl (cI, 4000, (.inl (fun _ => 0)))), (q3, .inl (cI, 6, (.inl (fun _ => 0)))), (q5, .inl (cI, 49152, (.inl (fun _ => 0)))), (q7, .inl (cZ, 768, (.inl (fun _ => 0)))), (q26, .inl (cZ, 3072, (.inl (fun _ => 0))))] H_92 := hP_92
  clear hP_92
  have hD_94 : va_D A [(h0, .inr (12, fs_25)), (q1, .inl (cI, 4000, (.inl (fun _ => 0)))), (q3, .inl (cI, 6, (.inl (fun _ => 0)))), (q5, .inl (cI, 49152, (.inl (fun _ => 0)))), (q7, .inl (cZ, 768, (.inl (fun _ => 0)))), (q26, .inl (cZ, 3072, (.inl (fun _ => 0))))] := hD_92
  clear hD_92
  refine W.widen (k := 13) (n := 257530) (by decide) (by decide) ?_
  refine va_putF (D := (dC, dI)) (ci := 12) (v := .ref q26) (ty := .array (.boolean)) (C := RX12) (T := TX12) (N := 172) hx hb hts inq_X12_init_c12 tyX12 tyX12_ok nmX12 hown hK hP_93 hD_94 hS_92 0 rfl rfl 18 (by decide) (hts (.fieldLink RX12 53 "DiskEvidenceModel" "blockChanged" "[Z") (List.mem_of_getElem? (i := 21) rfl)) (fun _ h9 => h9) rfl hin rfl (by decide +kernel) rfl rfl (by rw [hfl_25]; decide) dX12_init_115 (fun H_95 locs_95 hP_95 hD_95 hS_95 => ?_)
  clear hP_93 hD_94 hS_92
  have hP_96 : va_P (dC, dI) vwCl [(h0, .inr (12, (fs_25.set 18 (.ref q26)))), (q1, .inl (cI, 4000, (.inl (fun _ => 0)))), (q3, .inl (cI, 6, (.inl (fun _ => 0)))), (q5, .inl (cI, 49152, (.inl (fun _ => 0)))), (q7, .inl (cZ, 768, (.inl (fun _ => 0)))), (q26, .inl (cZ, 3072, (.inl (fun _ => 0))))] H_95 := hP_95
  clear hP_95
  have hD_97 : va_D A [(h0, .inr (12, (fs_25.set 18 (.ref q26)))), (q1, .inl (cI, 4000, (.inl (fun _ => 0)))), (q3, .inl (cI, 6, (.inl (fun _ => 0)))), (q5, .inl (cI, 49152, (.inl (fun _ => 0)))), (q7, .inl (cZ, 768, (.inl (fun _ => 0)))), (q26, .inl (cZ, 3072, (.inl (fun _ => 0))))] := hD_95
  clear hD_95
  obtain ⟨fs_27, efs_27⟩ : ∃ y, y = (fs_25.set 18 (.ref q26)) := ⟨_, rfl⟩
  rw [← efs_27] at hP_96 hD_97
  have hfl_27 : fs_27.length = 172 := by rw [efs_27, List.length_set]; exact hfl_25
  clear hfl_25
  have hP_98 := hP_96.sub (ws' := [(h0, .inr (12, fs_27)), (q1, .inl (cI, 4000, (.inl (fun _ => 0)))), (q3, .inl (cI, 6, (.inl (fun _ => 0)))), (q5, .inl (cI, 49152, (.inl (fun _ => 0)))), (q7, .inl (cZ, 768, (.inl (fun _ => 0))))]) [0, 1, 2, 3, 4] rfl
  clear hP_96
  have hD_99 := hD_97.sub (ws' := [(h0, .inr (12, fs_27)), (q1, .inl (cI, 4000, (.inl (fun _ => 0)))), (q3, .inl (cI, 6, (.inl (fun _ => 0)))), (q5, .inl (cI, 49152, (.inl (fun _ => 0)))), (q7, .inl (cZ, 768, (.inl (fun _ => 0))))]) [0, 1, 2, 3, 4] (by decide) rfl
  clear hD_97
  refine lv_aload_n hx hb dX12_init_118 rfl (lv_at hl 0 rfl) ?_
  refine lv_bipush (v := 64) hx hb dX12_init_119 (by decide) ?_
  refine nw_arr (atype := .int) (N' := 64) (a0 := (64, (.inl (fun _ => 0)))) hx hb (hts (.arrayClass .int) (List.mem_of_getElem? (i := 4) rfl)) rfl hK 0 (cI := cI) rfl hP_98 hD_99 hS_95 hA (fun _ => rfl) (by decide) (by decide) (by decide) (Nat.le_of_ble_eq_true rfl) (Nat.le_of_ble_eq_true rfl) dX12_init_121 (fun q28 H_100 hP_100 hD_100 hS_100 => ?_)
  clear hP_98 hD_99 hS_95
  have hP_101 : va_P (dC, dI) vwCl [(h0, .inr (12, fs_27)), (q1, .inl (cI, 4000, (.inl (fun _ => 0)))), (q3, .inl (cI, 6, (.inl (fun _ => 0)))), (q5, .inl (cI, 49152, (.inl (fun _ => 0)))), (q7, .inl (cZ, 768, (.inl (fun _ => 0)))), (q28, .inl (cI, 64, (.inl (fun _ => 0))))] H_100 := hP_100
  clear hP_100
  have hD_102 : va_D A [(h0, .inr (12, fs_27)), (q1, .inl (cI, 4000, (.inl (fun _ => 0)))), (q3, .inl (cI, 6, (.inl (fun _ => 0)))), (q5, .inl (cI, 49152, (.inl (fun _ => 0)))), (q7, .inl (cZ, 768, (.inl (fun _ => 0)))), (q28, .inl (cI, 64, (.inl (fun _ => 0))))] := hD_100
  clear hD_100
  refine W.widen (k := 14) (n := 257594) (by decide) (by decide) ?_
  refine va_putF (D := (dC, dI)) (ci := 12) (v := .ref q28) (ty := .array (.int)) (C := RX12) (T := TX12) (N := 172) hx hb hts inq_X12_init_c12 tyX12 tyX12_ok nmX12 hown hK hP_101 hD_102 hS_100 0 rfl rfl 21 (by decide) (hts (.fieldLink RX12 56 "DiskEvidenceModel" "partKind" "[I") (List.mem_of_getElem? (i := 22) rfl)) (fun _ h9 => h9) rfl hin rfl (by decide +kernel) rfl rfl (by rw [hfl_27]; decide) dX12_init_123 (fun H_103 locs_103 hP_103 hD_103 hS_103 => ?_)
  clear hP_101 hD_102 hS_100
  have hP_104 : va_P (dC, dI) vwCl [(h0, .inr (12, (fs_27.set 21 (.ref q28)))), (q1, .inl (cI, 4000, (.inl (fun _ => 0)))), (q3, .inl (cI, 6, (.inl (fun _ => 0)))), (q5, .inl (cI, 49152, (.inl (fun _ => 0)))), (q7, .inl (cZ, 768, (.inl (fun _ => 0)))), (q28, .inl (cI, 64, (.inl (fun _ => 0))))] H_103 := hP_103
  clear hP_103
  have hD_105 : va_D A [(h0, .inr (12, (fs_27.set 21 (.ref q28)))), (q1, .inl (cI, 4000, (.inl (fun _ => 0)))), (q3, .inl (cI, 6, (.inl (fun _ => 0)))), (q5, .inl (cI, 49152, (.inl (fun _ => 0)))), (q7, .inl (cZ, 768, (.inl (fun _ => 0)))), (q28, .inl (cI, 64, (.inl (fun _ => 0))))] := hD_103
  clear hD_103
  obtain ⟨fs_29, efs_29⟩ : ∃ y, y = (fs_27.set 21 (.ref q28)) := ⟨_, rfl⟩
  rw [← efs_29] at hP_104 hD_105
  have hfl_29 : fs_29.length = 172 := by rw [efs_29, List.length_set]; exact hfl_27
  clear hfl_27
  have hP_106 := hP_104.sub (ws' := [(h0, .inr (12, fs_29)), (q1, .inl (cI, 4000, (.inl (fun _ => 0)))), (q3, .inl (cI, 6, (.inl (fun _ => 0)))), (q5, .inl (cI, 49152, (.inl (fun _ => 0)))), (q7, .inl (cZ, 768, (.inl (fun _ => 0))))]) [0, 1, 2, 3, 4] rfl
  clear hP_104
  have hD_107 := hD_105.sub (ws' := [(h0, .inr (12, fs_29)), (q1, .inl (cI, 4000, (.inl (fun _ => 0)))), (q3, .inl (cI, 6, (.inl (fun _ => 0)))), (q5, .inl (cI, 49152, (.inl (fun _ => 0)))), (q7, .inl (cZ, 768, (.inl (fun _ => 0))))]) [0, 1, 2, 3, 4] (by decide) rfl
  clear hD_105
  refine lv_aload_n hx hb dX12_init_126 rfl (lv_at hl 0 rfl) ?_
  refine lv_bipush (v := 64) hx hb dX12_init_127 (by decide) ?_
  refine nw_arr (atype := .int) (N' := 64) (a0 := (64, (.inl (fun _ => 0)))) hx hb (hts (.arrayClass .int) (List.mem_of_getElem? (i := 4) rfl)) rfl hK 0 (cI := cI) rfl hP_106 hD_107 hS_103 hA (fun _ => rfl) (by decide) (by decide) (by decide) (Nat.le_of_ble_eq_true rfl) (Nat.le_of_ble_eq_true rfl) dX12_init_129 (fun q30 H_108 hP_108 hD_108 hS_108 => ?_)
  clear hP_106 hD_107 hS_103
  have hP_109 : va_P (dC, dI) vwCl [(h0, .inr (12, fs_29)), (q1, .inl (cI, 4000, (.inl (fun _ => 0)))), (q3, .inl (cI, 6, (.inl (fun _ => 0)))), (q5, .inl (cI, 49152, (.inl (fun _ => 0)))), (q7, .inl (cZ, 768, (.inl (fun _ => 0)))), (q30, .inl (cI, 64, (.inl (fun _ => 0))))] H_108 := hP_108
  clear hP_108
  have hD_110 : va_D A [(h0, .inr (12, fs_29)), (q1, .inl (cI, 4000, (.inl (fun _ => 0)))), (q3, .inl (cI, 6, (.inl (fun _ => 0)))), (q5, .inl (cI, 49152, (.inl (fun _ => 0)))), (q7, .inl (cZ, 768, (.inl (fun _ => 0)))), (q30, .inl (cI, 64, (.inl (fun _ => 0))))] := hD_108
  clear hD_108
  refine W.widen (k := 15) (n := 257658) (by decide) (by decide) ?_
  refine va_putF (D := (dC, dI)) (ci := 12) (v := .ref q30) (ty := .array (.int)) (C := RX12) (T := TX12) (N := 172) hx hb hts inq_X12_init_c12 tyX12 tyX12_ok nmX12 hown hK hP_109 hD_110 hS_108 0 rfl rfl 22 (by decide) (hts (.fieldLink RX12 59 "DiskEvidenceModel" "partFirst" "[I") (List.mem_of_getElem? (i := 23) rfl)) (fun _ h9 => h9) rfl hin rfl (by decide +kernel) rfl rfl (by rw [hfl_29]; decide) dX12_init_131 (fun H_111 locs_111 hP_111 hD_111 hS_111 => ?_)
  clear hP_109 hD_110 hS_108
  have hP_112 : va_P (dC, dI) vwCl [(h0, .inr (12, (fs_29.set 22 (.ref q30)))), (q1, .inl (cI, 4000, (.inl (fun _ => 0)))), (q3, .inl (cI, 6, (.inl (fun _ => 0)))), (q5, .inl (cI, 49152, (.inl (fun _ => 0)))), (q7, .inl (cZ, 768, (.inl (fun _ => 0)))), (q30, .inl (cI, 64, (.inl (fun _ => 0))))] H_111 := hP_111
  clear hP_111
  have hD_113 : va_D A [(h0, .inr (12, (fs_29.set 22 (.ref q30)))), (q1, .inl (cI, 4000, (.inl (fun _ => 0)))), (q3, .inl (cI, 6, (.inl (fun _ => 0)))), (q5, .inl (cI, 49152, (.inl (fun _ => 0)))), (q7, .inl (cZ, 768, (.inl (fun _ => 0)))), (q30, .inl (cI, 64, (.inl (fun _ => 0))))] := hD_111
  clear hD_111
  obtain ⟨fs_31, efs_31⟩ : ∃ y, y = (fs_29.set 22 (.ref q30)) := ⟨_, rfl⟩
  rw [← efs_31] at hP_112 hD_113
  have hfl_31 : fs_31.length = 172 := by rw [efs_31, List.length_set]; exact hfl_29
  clear hfl_29
  have hP_114 := hP_112.sub (ws' := [(h0, .inr (12, fs_31)), (q1, .inl (cI, 4000, (.inl (fun _ => 0)))), (q3, .inl (cI, 6, (.inl (fun _ => 0)))), (q5, .inl (cI, 49152, (.inl (fun _ => 0)))), (q7, .inl (cZ, 768, (.inl (fun _ => 0))))]) [0, 1, 2, 3, 4] rfl
  clear hP_112
  have hD_115 := hD_113.sub (ws' := [(h0, .inr (12, fs_31)), (q1, .inl (cI, 4000, (.inl (fun _ => 0)))), (q3, .inl (cI, 6, (.inl (fun _ => 0)))), (q5, .inl (cI, 49152, (.inl (fun _ => 0)))), (q7, .inl (cZ, 768, (.inl (fun _ => 0))))]) [0, 1, 2, 3, 4] (by decide) rfl
  clear hD_113
  refine lv_aload_n hx hb dX12_init_134 rfl (lv_at hl 0 rfl) ?_
  refine lv_bipush (v := 64) hx hb dX12_init_135 (by decide) ?_
  refine nw_arr (atype := .int) (N' := 64) (a0 := (64, (.inl (fun _ => 0)))) hx hb (hts (.arrayClass .int) (List.mem_of_getElem? (i := 4) rfl)) rfl hK 0 (cI := cI) rfl hP_114 hD_115 hS_111 hA (fun _ => rfl) (by decide) (by decide) (by decide) (Nat.le_of_ble_eq_true rfl) (Nat.le_of_ble_eq_true rfl) dX12_init_137 (fun q32 H_116 hP_116 hD_116 hS_116 => ?_)
  clear hP_114 hD_115 hS_111
  have hP_117 : va_P (dC, dI) vwCl [(h0, .inr (12, fs_31)), (q1, .inl (cI, 4000, (.inl (fun _ => 0)))), (q3, .inl (cI, 6, (.inl (fun _ => 0)))), (q5, .inl (cI, 49152, (.inl (fun _ => 0)))), (q7, .inl (cZ, 768, (.inl (fun _ => 0)))), (q32, .inl (cI, 64, (.inl (fun _ => 0))))] H_116 := hP_116
  clear hP_116
  have hD_118 : va_D A [(h0, .inr (12, fs_31)), (q1, .inl (cI, 4000, (.inl (fun _ => 0)))), (q3, .inl (cI, 6, (.inl (fun _ => 0)))), (q5, .inl (cI, 49152, (.inl (fun _ => 0)))), (q7, .inl (cZ, 768, (.inl (fun _ => 0)))), (q32, .inl (cI, 64, (.inl (fun _ => 0))))] := hD_116
  clear hD_116
  refine W.widen (k := 16) (n := 257722) (by decide) (by decide) ?_
  refine va_putF (D := (dC, dI)) (ci := 12) (v := .ref q32) (ty := .array (.int)) (C := RX12) (T := TX12) (N := 172) hx hb hts inq_X12_init_c12 tyX12 tyX12_ok nmX12 hown hK hP_117 hD_118 hS_116 0 rfl rfl 23 (by decide) (hts (.fieldLink RX12 62 "DiskEvidenceModel" "partMany" "[I") (List.mem_of_getElem? (i := 24) rfl)) (fun _ h9 => h9) rfl hin rfl (by decide +kernel) rfl rfl (by rw [hfl_31]; decide) dX12_init_139 (fun H_119 locs_119 hP_119 hD_119 hS_119 => ?_)
  clear hP_117 hD_118 hS_116
  have hP_120 : va_P (dC, dI) vwCl [(h0, .inr (12, (fs_31.set 23 (.ref q32)))), (q1, .inl (cI, 4000, (.inl (fun _ => 0)))), (q3, .inl (cI, 6, (.inl (fun _ => 0)))), (q5, .inl (cI, 49152, (.inl (fun _ => 0)))), (q7, .inl (cZ, 768, (.inl (fun _ => 0)))), (q32, .inl (cI, 64, (.inl (fun _ => 0))))] H_119 := hP_119
  clear hP_119
  have hD_121 : va_D A [(h0, .inr (12, (fs_31.set 23 (.ref q32)))), (q1, .inl (cI, 4000, (.inl (fun _ => 0)))), (q3, .inl (cI, 6, (.inl (fun _ => 0)))), (q5, .inl (cI, 49152, (.inl (fun _ => 0)))), (q7, .inl (cZ, 768, (.inl (fun _ => 0)))), (q32, .inl (cI, 64, (.inl (fun _ => 0))))] := hD_119
  clear hD_119
  obtain ⟨fs_33, efs_33⟩ : ∃ y, y = (fs_31.set 23 (.ref q32)) := ⟨_, rfl⟩
  rw [← efs_33] at hP_120 hD_121
  have hfl_33 : fs_33.length = 172 := by rw [efs_33, List.length_set]; exact hfl_31
  clear hfl_31
  have hP_122 := hP_120.sub (ws' := [(h0, .inr (12, fs_33)), (q1, .inl (cI, 4000, (.inl (fun _ => 0)))), (q3, .inl (cI, 6, (.inl (fun _ => 0)))), (q5, .inl (cI, 49152, (.inl (fun _ => 0)))), (q7, .inl (cZ, 768, (.inl (fun _ => 0))))]) [0, 1, 2, 3, 4] rfl
  clear hP_120
  have hD_123 := hD_121.sub (ws' := [(h0, .inr (12, fs_33)), (q1, .inl (cI, 4000, (.inl (fun _ => 0)))), (q3, .inl (cI, 6, (.inl (fun _ => 0)))), (q5, .inl (cI, 49152, (.inl (fun _ => 0)))), (q7, .inl (cZ, 768, (.inl (fun _ => 0))))]) [0, 1, 2, 3, 4] (by decide) rfl
  clear hD_121
  refine lv_aload_n hx hb dX12_init_142 rfl (lv_at hl 0 rfl) ?_
  refine lv_bipush (v := 64) hx hb dX12_init_143 (by decide) ?_
  refine nw_arr (atype := .int) (N' := 64) (a0 := (64, (.inl (fun _ => 0)))) hx hb (hts (.arrayClass .int) (List.mem_of_getElem? (i := 4) rfl)) rfl hK 0 (cI := cI) rfl hP_122 hD_123 hS_119 hA (fun _ => rfl) (by decide) (by decide) (by decide) (Nat.le_of_ble_eq_true rfl) (Nat.le_of_ble_eq_true rfl) dX12_init_145 (fun q34 H_124 hP_124 hD_124 hS_124 => ?_)
  clear hP_122 hD_123 hS_119
  have hP_125 : va_P (dC, dI) vwCl [(h0, .inr (12, fs_33)), (q1, .inl (cI, 4000, (.inl (fun _ => 0)))), (q3, .inl (cI, 6, (.inl (fun _ => 0)))), (q5, .inl (cI, 49152, (.inl (fun _ => 0)))), (q7, .inl (cZ, 768, (.inl (fun _ => 0)))), (q34, .inl (cI, 64, (.inl (fun _ => 0))))] H_124 := hP_124
  clear hP_124
  have hD_126 : va_D A [(h0, .inr (12, fs_33)), (q1, .inl (cI, 4000, (.inl (fun _ => 0)))), (q3, .inl (cI, 6, (.inl (fun _ => 0)))), (q5, .inl (cI, 49152, (.inl (fun _ => 0)))), (q7, .inl (cZ, 768, (.inl (fun _ => 0)))), (q34, .inl (cI, 64, (.inl (fun _ => 0))))] := hD_124
  clear hD_124
  refine W.widen (k := 17) (n := 257786) (by decide) (by decide) ?_
  refine va_putF (D := (dC, dI)) (ci := 12) (v := .ref q34) (ty := .array (.int)) (C := RX12) (T := TX12) (N := 172) hx hb hts inq_X12_init_c12 tyX12 tyX12_ok nmX12 hown hK hP_125 hD_126 hS_124 0 rfl rfl 24 (by decide) (hts (.fieldLink RX12 65 "DiskEvidenceModel" "partTable" "[I") (List.mem_of_getElem? (i := 25) rfl)) (fun _ h9 => h9) rfl hin rfl (by decide +kernel) rfl rfl (by rw [hfl_33]; decide) dX12_init_147 (fun H_127 locs_127 hP_127 hD_127 hS_127 => ?_)
  clear hP_125 hD_126 hS_124
  have hP_128 : va_P (dC, dI) vwCl [(h0, .inr (12, (fs_33.set 24 (.ref q34)))), (q1, .inl (cI, 4000, (.inl (fun _ => 0)))), (q3, .inl (cI, 6, (.inl (fun _ => 0)))), (q5, .inl (cI, 49152, (.inl (fun _ => 0)))), (q7, .inl (cZ, 768, (.inl (fun _ => 0)))), (q34, .inl (cI, 64, (.inl (fun _ => 0))))] H_127 := hP_127
  clear hP_127
  have hD_129 : va_D A [(h0, .inr (12, (fs_33.set 24 (.ref q34)))), (q1, .inl (cI, 4000, (.inl (fun _ => 0)))), (q3, .inl (cI, 6, (.inl (fun _ => 0)))), (q5, .inl (cI, 49152, (.inl (fun _ => 0)))), (q7, .inl (cZ, 768, (.inl (fun _ => 0)))), (q34, .inl (cI, 64, (.inl (fun _ => 0))))] := hD_127
  clear hD_127
  obtain ⟨fs_35, efs_35⟩ : ∃ y, y = (fs_33.set 24 (.ref q34)) := ⟨_, rfl⟩
  rw [← efs_35] at hP_128 hD_129
  have hfl_35 : fs_35.length = 172 := by rw [efs_35, List.length_set]; exact hfl_33
  clear hfl_33
  have hP_130 := hP_128.sub (ws' := [(h0, .inr (12, fs_35)), (q1, .inl (cI, 4000, (.inl (fun _ => 0)))), (q3, .inl (cI, 6, (.inl (fun _ => 0)))), (q5, .inl (cI, 49152, (.inl (fun _ => 0)))), (q7, .inl (cZ, 768, (.inl (fun _ => 0))))]) [0, 1, 2, 3, 4] rfl
  clear hP_128
  have hD_131 := hD_129.sub (ws' := [(h0, .inr (12, fs_35)), (q1, .inl (cI, 4000, (.inl (fun _ => 0)))), (q3, .inl (cI, 6, (.inl (fun _ => 0)))), (q5, .inl (cI, 49152, (.inl (fun _ => 0)))), (q7, .inl (cZ, 768, (.inl (fun _ => 0))))]) [0, 1, 2, 3, 4] (by decide) rfl
  clear hD_129
  refine lv_aload_n hx hb dX12_init_150 rfl (lv_at hl 0 rfl) ?_
  refine lv_bipush (v := 16) hx hb dX12_init_151 (by decide) ?_
  refine nw_arr (atype := .int) (N' := 16) (a0 := (16, (.inl (fun _ => 0)))) hx hb (hts (.arrayClass .int) (List.mem_of_getElem? (i := 4) rfl)) rfl hK 0 (cI := cI) rfl hP_130 hD_131 hS_127 hA (fun _ => rfl) (by decide) (by decide) (by decide) (Nat.le_of_ble_eq_true rfl) (Nat.le_of_ble_eq_true rfl) dX12_init_153 (fun q36 H_132 hP_132 hD_132 hS_132 => ?_)
  clear hP_130 hD_131 hS_127
  have hP_133 : va_P (dC, dI) vwCl [(h0, .inr (12, fs_35)), (q1, .inl (cI, 4000, (.inl (fun _ => 0)))), (q3, .inl (cI, 6, (.inl (fun _ => 0)))), (q5, .inl (cI, 49152, (.inl (fun _ => 0)))), (q7, .inl (cZ, 768, (.inl (fun _ => 0)))), (q36, .inl (cI, 16, (.inl (fun _ => 0))))] H_132 := hP_132
  clear hP_132
  have hD_134 : va_D A [(h0, .inr (12, fs_35)), (q1, .inl (cI, 4000, (.inl (fun _ => 0)))), (q3, .inl (cI, 6, (.inl (fun _ => 0)))), (q5, .inl (cI, 49152, (.inl (fun _ => 0)))), (q7, .inl (cZ, 768, (.inl (fun _ => 0)))), (q36, .inl (cI, 16, (.inl (fun _ => 0))))] := hD_132
  clear hD_132
  refine W.widen (k := 18) (n := 257802) (by decide) (by decide) ?_
  refine va_putF (D := (dC, dI)) (ci := 12) (v := .ref q36) (ty := .array (.int)) (C := RX12) (T := TX12) (N := 172) hx hb hts inq_X12_init_c12 tyX12 tyX12_ok nmX12 hown hK hP_133 hD_134 hS_132 0 rfl rfl 25 (by decide) (hts (.fieldLink RX12 68 "DiskEvidenceModel" "tables" "[I") (List.mem_of_getElem? (i := 26) rfl)) (fun _ h9 => h9) rfl hin rfl (by decide +kernel) rfl rfl (by rw [hfl_35]; decide) dX12_init_155 (fun H_135 locs_135 hP_135 hD_135 hS_135 => ?_)
  clear hP_133 hD_134 hS_132
  have hP_136 : va_P (dC, dI) vwCl [(h0, .inr (12, (fs_35.set 25 (.ref q36)))), (q1, .inl (cI, 4000, (.inl (fun _ => 0)))), (q3, .inl (cI, 6, (.inl (fun _ => 0)))), (q5, .inl (cI, 49152, (.inl (fun _ => 0)))), (q7, .inl (cZ, 768, (.inl (fun _ => 0)))), (q36, .inl (cI, 16, (.inl (fun _ => 0))))] H_135 := hP_135
  clear hP_135
  have hD_137 : va_D A [(h0, .inr (12, (fs_35.set 25 (.ref q36)))), (q1, .inl (cI, 4000, (.inl (fun _ => 0)))), (q3, .inl (cI, 6, (.inl (fun _ => 0)))), (q5, .inl (cI, 49152, (.inl (fun _ => 0)))), (q7, .inl (cZ, 768, (.inl (fun _ => 0)))), (q36, .inl (cI, 16, (.inl (fun _ => 0))))] := hD_135
  clear hD_135
  obtain ⟨fs_37, efs_37⟩ : ∃ y, y = (fs_35.set 25 (.ref q36)) := ⟨_, rfl⟩
  rw [← efs_37] at hP_136 hD_137
  have hfl_37 : fs_37.length = 172 := by rw [efs_37, List.length_set]; exact hfl_35
  clear hfl_35
  have hP_138 := hP_136.sub (ws' := [(h0, .inr (12, fs_37)), (q1, .inl (cI, 4000, (.inl (fun _ => 0)))), (q3, .inl (cI, 6, (.inl (fun _ => 0)))), (q5, .inl (cI, 49152, (.inl (fun _ => 0)))), (q7, .inl (cZ, 768, (.inl (fun _ => 0))))]) [0, 1, 2, 3, 4] rfl
  clear hP_136
  have hD_139 := hD_137.sub (ws' := [(h0, .inr (12, fs_37)), (q1, .inl (cI, 4000, (.inl (fun _ => 0)))), (q3, .inl (cI, 6, (.inl (fun _ => 0)))), (q5, .inl (cI, 49152, (.inl (fun _ => 0)))), (q7, .inl (cZ, 768, (.inl (fun _ => 0))))]) [0, 1, 2, 3, 4] (by decide) rfl
  clear hD_137
  refine lv_aload_n hx hb dX12_init_158 rfl (lv_at hl 0 rfl) ?_
  refine lv_bipush (v := 17) hx hb dX12_init_159 (by decide) ?_
  refine nw_arr (atype := .int) (N' := 17) (a0 := (17, (.inl (fun _ => 0)))) hx hb (hts (.arrayClass .int) (List.mem_of_getElem? (i := 4) rfl)) rfl hK 0 (cI := cI) rfl hP_138 hD_139 hS_135 hA (fun _ => rfl) (by decide) (by decide) (by decide) (Nat.le_of_ble_eq_true rfl) (Nat.le_of_ble_eq_true rfl) dX12_init_161 (fun q38 H_140 hP_140 hD_140 hS_140 => ?_)
  clear hP_138 hD_139 hS_135
  have hP_141 : va_P (dC, dI) vwCl [(h0, .inr (12, fs_37)), (q1, .inl (cI, 4000, (.inl (fun _ => 0)))), (q3, .inl (cI, 6, (.inl (fun _ => 0)))), (q5, .inl (cI, 49152, (.inl (fun _ => 0)))), (q7, .inl (cZ, 768, (.inl (fun _ => 0)))), (q38, .inl (cI, 17, (.inl (fun _ => 0))))] H_140 := hP_140
  clear hP_140
  have hD_142 : va_D A [(h0, .inr (12, fs_37)), (q1, .inl (cI, 4000, (.inl (fun _ => 0)))), (q3, .inl (cI, 6, (.inl (fun _ => 0)))), (q5, .inl (cI, 49152, (.inl (fun _ => 0)))), (q7, .inl (cZ, 768, (.inl (fun _ => 0)))), (q38, .inl (cI, 17, (.inl (fun _ => 0))))] := hD_140
  clear hD_140
  refine W.widen (k := 19) (n := 257819) (by decide) (by decide) ?_
  refine va_putF (D := (dC, dI)) (ci := 12) (v := .ref q38) (ty := .array (.int)) (C := RX12) (T := TX12) (N := 172) hx hb hts inq_X12_init_c12 tyX12 tyX12_ok nmX12 hown hK hP_141 hD_142 hS_140 0 rfl rfl 27 (by decide) (hts (.fieldLink RX12 71 "DiskEvidenceModel" "openTable" "[I") (List.mem_of_getElem? (i := 27) rfl)) (fun _ h9 => h9) rfl hin rfl (by decide +kernel) rfl rfl (by rw [hfl_37]; decide) dX12_init_163 (fun H_143 locs_143 hP_143 hD_143 hS_143 => ?_)
  clear hP_141 hD_142 hS_140
  have hP_144 : va_P (dC, dI) vwCl [(h0, .inr (12, (fs_37.set 27 (.ref q38)))), (q1, .inl (cI, 4000, (.inl (fun _ => 0)))), (q3, .inl (cI, 6, (.inl (fun _ => 0)))), (q5, .inl (cI, 49152, (.inl (fun _ => 0)))), (q7, .inl (cZ, 768, (.inl (fun _ => 0)))), (q38, .inl (cI, 17, (.inl (fun _ => 0))))] H_143 := hP_143
  clear hP_143
  have hD_145 : va_D A [(h0, .inr (12, (fs_37.set 27 (.ref q38)))), (q1, .inl (cI, 4000, (.inl (fun _ => 0)))), (q3, .inl (cI, 6, (.inl (fun _ => 0)))), (q5, .inl (cI, 49152, (.inl (fun _ => 0)))), (q7, .inl (cZ, 768, (.inl (fun _ => 0)))), (q38, .inl (cI, 17, (.inl (fun _ => 0))))] := hD_143
  clear hD_143
  obtain ⟨fs_39, efs_39⟩ : ∃ y, y = (fs_37.set 27 (.ref q38)) := ⟨_, rfl⟩
  rw [← efs_39] at hP_144 hD_145
  have hfl_39 : fs_39.length = 172 := by rw [efs_39, List.length_set]; exact hfl_37
  clear hfl_37
  have hP_146 := hP_144.sub (ws' := [(h0, .inr (12, fs_39)), (q1, .inl (cI, 4000, (.inl (fun _ => 0)))), (q3, .inl (cI, 6, (.inl (fun _ => 0)))), (q5, .inl (cI, 49152, (.inl (fun _ => 0)))), (q7, .inl (cZ, 768, (.inl (fun _ => 0))))]) [0, 1, 2, 3, 4] rfl
  clear hP_144
  have hD_147 := hD_145.sub (ws' := [(h0, .inr (12, fs_39)), (q1, .inl (cI, 4000, (.inl (fun _ => 0)))), (q3, .inl (cI, 6, (.inl (fun _ => 0)))), (q5, .inl (cI, 49152, (.inl (fun _ => 0)))), (q7, .inl (cZ, 768, (.inl (fun _ => 0))))]) [0, 1, 2, 3, 4] (by decide) rfl
  clear hD_145
  refine lv_aload_n hx hb dX12_init_166 rfl (lv_at hl 0 rfl) ?_
  refine lv_bipush (v := 17) hx hb dX12_init_167 (by decide) ?_
  refine nw_arr (atype := .int) (N' := 17) (a0 := (17, (.inl (fun _ => 0)))) hx hb (hts (.arrayClass .int) (List.mem_of_getElem? (i := 4) rfl)) rfl hK 0 (cI := cI) rfl hP_146 hD_147 hS_143 hA (fun _ => rfl) (by decide) (by decide) (by decide) (Nat.le_of_ble_eq_true rfl) (Nat.le_of_ble_eq_true rfl) dX12_init_169 (fun q40 H_148 hP_148 hD_148 hS_148 => ?_)
  clear hP_146 hD_147 hS_143
  have hP_149 : va_P (dC, dI) vwCl [(h0, .inr (12, fs_39)), (q1, .inl (cI, 4000, (.inl (fun _ => 0)))), (q3, .inl (cI, 6, (.inl (fun _ => 0)))), (q5, .inl (cI, 49152, (.inl (fun _ => 0)))), (q7, .inl (cZ, 768, (.inl (fun _ => 0)))), (q40, .inl (cI, 17, (.inl (fun _ => 0))))] H_148 := hP_148
  clear hP_148
  have hD_150 : va_D A [(h0, .inr (12, fs_39)), (q1, .inl (cI, 4000, (.inl (fun _ => 0)))), (q3, .inl (cI, 6, (.inl (fun _ => 0)))), (q5, .inl (cI, 49152, (.inl (fun _ => 0)))), (q7, .inl (cZ, 768, (.inl (fun _ => 0)))), (q40, .inl (cI, 17, (.inl (fun _ => 0))))] := hD_148
  clear hD_148
  refine W.widen (k := 20) (n := 257836) (by decide) (by decide) ?_
  refine va_putF (D := (dC, dI)) (ci := 12) (v := .ref q40) (ty := .array (.int)) (C := RX12) (T := TX12) (N := 172) hx hb hts inq_X12_init_c12 tyX12 tyX12_ok nmX12 hown hK hP_149 hD_150 hS_148 0 rfl rfl 28 (by decide) (hts (.fieldLink RX12 74 "DiskEvidenceModel" "openRow" "[I") (List.mem_of_getElem? (i := 28) rfl)) (fun _ h9 => h9) rfl hin rfl (by decide +kernel) rfl rfl (by rw [hfl_39]; decide) dX12_init_171 (fun H_151 locs_151 hP_151 hD_151 hS_151 => ?_)
  clear hP_149 hD_150 hS_148
  have hP_152 : va_P (dC, dI) vwCl [(h0, .inr (12, (fs_39.set 28 (.ref q40)))), (q1, .inl (cI, 4000, (.inl (fun _ => 0)))), (q3, .inl (cI, 6, (.inl (fun _ => 0)))), (q5, .inl (cI, 49152, (.inl (fun _ => 0)))), (q7, .inl (cZ, 768, (.inl (fun _ => 0)))), (q40, .inl (cI, 17, (.inl (fun _ => 0))))] H_151 := hP_151
  clear hP_151
  have hD_153 : va_D A [(h0, .inr (12, (fs_39.set 28 (.ref q40)))), (q1, .inl (cI, 4000, (.inl (fun _ => 0)))), (q3, .inl (cI, 6, (.inl (fun _ => 0)))), (q5, .inl (cI, 49152, (.inl (fun _ => 0)))), (q7, .inl (cZ, 768, (.inl (fun _ => 0)))), (q40, .inl (cI, 17, (.inl (fun _ => 0))))] := hD_151
  clear hD_151
  obtain ⟨fs_41, efs_41⟩ : ∃ y, y = (fs_39.set 28 (.ref q40)) := ⟨_, rfl⟩
  rw [← efs_41] at hP_152 hD_153
  have hfl_41 : fs_41.length = 172 := by rw [efs_41, List.length_set]; exact hfl_39
  clear hfl_39
  have hP_154 := hP_152.sub (ws' := [(h0, .inr (12, fs_41)), (q1, .inl (cI, 4000, (.inl (fun _ => 0)))), (q3, .inl (cI, 6, (.inl (fun _ => 0)))), (q5, .inl (cI, 49152, (.inl (fun _ => 0)))), (q7, .inl (cZ, 768, (.inl (fun _ => 0))))]) [0, 1, 2, 3, 4] rfl
  clear hP_152
  have hD_155 := hD_153.sub (ws' := [(h0, .inr (12, fs_41)), (q1, .inl (cI, 4000, (.inl (fun _ => 0)))), (q3, .inl (cI, 6, (.inl (fun _ => 0)))), (q5, .inl (cI, 49152, (.inl (fun _ => 0)))), (q7, .inl (cZ, 768, (.inl (fun _ => 0))))]) [0, 1, 2, 3, 4] (by decide) rfl
  clear hD_153
  refine lv_aload_n hx hb dX12_init_174 rfl (lv_at hl 0 rfl) ?_
  refine lv_bipush (v := 64) hx hb dX12_init_175 (by decide) ?_
  refine nw_arr (atype := .int) (N' := 64) (a0 := (64, (.inl (fun _ => 0)))) hx hb (hts (.arrayClass .int) (List.mem_of_getElem? (i := 4) rfl)) rfl hK 0 (cI := cI) rfl hP_154 hD_155 hS_151 hA (fun _ => rfl) (by decide) (by decide) (by decide) (Nat.le_of_ble_eq_true rfl) (Nat.le_of_ble_eq_true rfl) dX12_init_177 (fun q42 H_156 hP_156 hD_156 hS_156 => ?_)
  clear hP_154 hD_155 hS_151
  have hP_157 : va_P (dC, dI) vwCl [(h0, .inr (12, fs_41)), (q1, .inl (cI, 4000, (.inl (fun _ => 0)))), (q3, .inl (cI, 6, (.inl (fun _ => 0)))), (q5, .inl (cI, 49152, (.inl (fun _ => 0)))), (q7, .inl (cZ, 768, (.inl (fun _ => 0)))), (q42, .inl (cI, 64, (.inl (fun _ => 0))))] H_156 := hP_156
  clear hP_156
  have hD_158 : va_D A [(h0, .inr (12, fs_41)), (q1, .inl (cI, 4000, (.inl (fun _ => 0)))), (q3, .inl (cI, 6, (.inl (fun _ => 0)))), (q5, .inl (cI, 49152, (.inl (fun _ => 0)))), (q7, .inl (cZ, 768, (.inl (fun _ => 0)))), (q42, .inl (cI, 64, (.inl (fun _ => 0))))] := hD_156
  clear hD_156
  refine W.widen (k := 21) (n := 257900) (by decide) (by decide) ?_
  refine va_putF (D := (dC, dI)) (ci := 12) (v := .ref q42) (ty := .array (.int)) (C := RX12) (T := TX12) (N := 172) hx hb hts inq_X12_init_c12 tyX12 tyX12_ok nmX12 hown hK hP_157 hD_158 hS_156 0 rfl rfl 31 (by decide) (hts (.fieldLink RX12 77 "DiskEvidenceModel" "waitVolume" "[I") (List.mem_of_getElem? (i := 29) rfl)) (fun _ h9 => h9) rfl hin rfl (by decide +kernel) rfl rfl (by rw [hfl_41]; decide) dX12_init_179 (fun H_159 locs_159 hP_159 hD_159 hS_159 => ?_)
  clear hP_157 hD_158 hS_156
  have hP_160 : va_P (dC, dI) vwCl [(h0, .inr (12, (fs_41.set 31 (.ref q42)))), (q1, .inl (cI, 4000, (.inl (fun _ => 0)))), (q3, .inl (cI, 6, (.inl (fun _ => 0)))), (q5, .inl (cI, 49152, (.inl (fun _ => 0)))), (q7, .inl (cZ, 768, (.inl (fun _ => 0)))), (q42, .inl (cI, 64, (.inl (fun _ => 0))))] H_159 := hP_159
  clear hP_159
  have hD_161 : va_D A [(h0, .inr (12, (fs_41.set 31 (.ref q42)))), (q1, .inl (cI, 4000, (.inl (fun _ => 0)))), (q3, .inl (cI, 6, (.inl (fun _ => 0)))), (q5, .inl (cI, 49152, (.inl (fun _ => 0)))), (q7, .inl (cZ, 768, (.inl (fun _ => 0)))), (q42, .inl (cI, 64, (.inl (fun _ => 0))))] := hD_159
  clear hD_159
  obtain ⟨fs_43, efs_43⟩ : ∃ y, y = (fs_41.set 31 (.ref q42)) := ⟨_, rfl⟩
  rw [← efs_43] at hP_160 hD_161
  have hfl_43 : fs_43.length = 172 := by rw [efs_43, List.length_set]; exact hfl_41
  clear hfl_41
  have hP_162 := hP_160.sub (ws' := [(h0, .inr (12, fs_43)), (q1, .inl (cI, 4000, (.inl (fun _ => 0)))), (q3, .inl (cI, 6, (.inl (fun _ => 0)))), (q5, .inl (cI, 49152, (.inl (fun _ => 0)))), (q7, .inl (cZ, 768, (.inl (fun _ => 0))))]) [0, 1, 2, 3, 4] rfl
  clear hP_160
  have hD_163 := hD_161.sub (ws' := [(h0, .inr (12, fs_43)), (q1, .inl (cI, 4000, (.inl (fun _ => 0)))), (q3, .inl (cI, 6, (.inl (fun _ => 0)))), (q5, .inl (cI, 49152, (.inl (fun _ => 0)))), (q7, .inl (cZ, 768, (.inl (fun _ => 0))))]) [0, 1, 2, 3, 4] (by decide) rfl
  clear hD_161
  refine lv_aload_n hx hb dX12_init_182 rfl (lv_at hl 0 rfl) ?_
  refine lv_bipush (v := 64) hx hb dX12_init_183 (by decide) ?_
  refine nw_arr (atype := .int) (N' := 64) (a0 := (64, (.inl (fun _ => 0)))) hx hb (hts (.arrayClass .int) (List.mem_of_getElem? (i := 4) rfl)) rfl hK 0 (cI := cI) rfl hP_162 hD_163 hS_159 hA (fun _ => rfl) (by decide) (by decide) (by decide) (Nat.le_of_ble_eq_true rfl) (Nat.le_of_ble_eq_true rfl) dX12_init_185 (fun q44 H_164 hP_164 hD_164 hS_164 => ?_)
  clear hP_162 hD_163 hS_159
  have hP_165 : va_P (dC, dI) vwCl [(h0, .inr (12, fs_43)), (q1, .inl (cI, 4000, (.inl (fun _ => 0)))), (q3, .inl (cI, 6, (.inl (fun _ => 0)))), (q5, .inl (cI, 49152, (.inl (fun _ => 0)))), (q7, .inl (cZ, 768, (.inl (fun _ => 0)))), (q44, .inl (cI, 64, (.inl (fun _ => 0))))] H_164 := hP_164
  clear hP_164
  have hD_166 : va_D A [(h0, .inr (12, fs_43)), (q1, .inl (cI, 4000, (.inl (fun _ => 0)))), (q3, .inl (cI, 6, (.inl (fun _ => 0)))), (q5, .inl (cI, 49152, (.inl (fun _ => 0)))), (q7, .inl (cZ, 768, (.inl (fun _ => 0)))), (q44, .inl (cI, 64, (.inl (fun _ => 0))))] := hD_164
  clear hD_164
  refine W.widen (k := 22) (n := 257964) (by decide) (by decide) ?_
  refine va_putF (D := (dC, dI)) (ci := 12) (v := .ref q44) (ty := .array (.int)) (C := RX12) (T := TX12) (N := 172) hx hb hts inq_X12_init_c12 tyX12 tyX12_ok nmX12 hown hK hP_165 hD_166 hS_164 0 rfl rfl 32 (by decide) (hts (.fieldLink RX12 80 "DiskEvidenceModel" "waitBlock" "[I") (List.mem_of_getElem? (i := 30) rfl)) (fun _ h9 => h9) rfl hin rfl (by decide +kernel) rfl rfl (by rw [hfl_43]; decide) dX12_init_187 (fun H_167 locs_167 hP_167 hD_167 hS_167 => ?_)
  clear hP_165 hD_166 hS_164
  have hP_168 : va_P (dC, dI) vwCl [(h0, .inr (12, (fs_43.set 32 (.ref q44)))), (q1, .inl (cI, 4000, (.inl (fun _ => 0)))), (q3, .inl (cI, 6, (.inl (fun _ => 0)))), (q5, .inl (cI, 49152, (.inl (fun _ => 0)))), (q7, .inl (cZ, 768, (.inl (fun _ => 0)))), (q44, .inl (cI, 64, (.inl (fun _ => 0))))] H_167 := hP_167
  clear hP_167
  have hD_169 : va_D A [(h0, .inr (12, (fs_43.set 32 (.ref q44)))), (q1, .inl (cI, 4000, (.inl (fun _ => 0)))), (q3, .inl (cI, 6, (.inl (fun _ => 0)))), (q5, .inl (cI, 49152, (.inl (fun _ => 0)))), (q7, .inl (cZ, 768, (.inl (fun _ => 0)))), (q44, .inl (cI, 64, (.inl (fun _ => 0))))] := hD_167
  clear hD_167
  obtain ⟨fs_45, efs_45⟩ : ∃ y, y = (fs_43.set 32 (.ref q44)) := ⟨_, rfl⟩
  rw [← efs_45] at hP_168 hD_169
  have hfl_45 : fs_45.length = 172 := by rw [efs_45, List.length_set]; exact hfl_43
  clear hfl_43
  have hP_170 := hP_168.sub (ws' := [(h0, .inr (12, fs_45)), (q1, .inl (cI, 4000, (.inl (fun _ => 0)))), (q3, .inl (cI, 6, (.inl (fun _ => 0)))), (q5, .inl (cI, 49152, (.inl (fun _ => 0)))), (q7, .inl (cZ, 768, (.inl (fun _ => 0))))]) [0, 1, 2, 3, 4] rfl
  clear hP_168
  have hD_171 := hD_169.sub (ws' := [(h0, .inr (12, fs_45)), (q1, .inl (cI, 4000, (.inl (fun _ => 0)))), (q3, .inl (cI, 6, (.inl (fun _ => 0)))), (q5, .inl (cI, 49152, (.inl (fun _ => 0)))), (q7, .inl (cZ, 768, (.inl (fun _ => 0))))]) [0, 1, 2, 3, 4] (by decide) rfl
  clear hD_169
  refine lv_aload_n hx hb dX12_init_190 rfl (lv_at hl 0 rfl) ?_
  refine lv_sipush (v := 4096) hx hb dX12_init_191 (by decide) ?_
  refine nw_arr (atype := .int) (N' := 4096) (a0 := (4096, (.inl (fun _ => 0)))) hx hb (hts (.arrayClass .int) (List.mem_of_getElem? (i := 4) rfl)) rfl hK 0 (cI := cI) rfl hP_170 hD_171 hS_167 hA (fun _ => rfl) (by decide) (by decide) (by decide) (Nat.le_of_ble_eq_true rfl) (Nat.le_of_ble_eq_true rfl) dX12_init_194 (fun q46 H_172 hP_172 hD_172 hS_172 => ?_)
  clear hP_170 hD_171 hS_167
  have hP_173 : va_P (dC, dI) vwCl [(h0, .inr (12, fs_45)), (q1, .inl (cI, 4000, (.inl (fun _ => 0)))), (q3, .inl (cI, 6, (.inl (fun _ => 0)))), (q5, .inl (cI, 49152, (.inl (fun _ => 0)))), (q7, .inl (cZ, 768, (.inl (fun _ => 0)))), (q46, .inl (cI, 4096, (.inl (fun _ => 0))))] H_172 := hP_172
  clear hP_172
  have hD_174 : va_D A [(h0, .inr (12, fs_45)), (q1, .inl (cI, 4000, (.inl (fun _ => 0)))), (q3, .inl (cI, 6, (.inl (fun _ => 0)))), (q5, .inl (cI, 49152, (.inl (fun _ => 0)))), (q7, .inl (cZ, 768, (.inl (fun _ => 0)))), (q46, .inl (cI, 4096, (.inl (fun _ => 0))))] := hD_172
  clear hD_172
  refine W.widen (k := 23) (n := 262060) (by decide) (by decide) ?_
  refine va_putF (D := (dC, dI)) (ci := 12) (v := .ref q46) (ty := .array (.int)) (C := RX12) (T := TX12) (N := 172) hx hb hts inq_X12_init_c12 tyX12 tyX12_ok nmX12 hown hK hP_173 hD_174 hS_172 0 rfl rfl 33 (by decide) (hts (.fieldLink RX12 83 "DiskEvidenceModel" "waitBytes" "[I") (List.mem_of_getElem? (i := 31) rfl)) (fun _ h9 => h9) rfl hin rfl (by decide +kernel) rfl rfl (by rw [hfl_45]; decide) dX12_init_196 (fun H_175 locs_175 hP_175 hD_175 hS_175 => ?_)
  clear hP_173 hD_174 hS_172
  have hP_176 : va_P (dC, dI) vwCl [(h0, .inr (12, (fs_45.set 33 (.ref q46)))), (q1, .inl (cI, 4000, (.inl (fun _ => 0)))), (q3, .inl (cI, 6, (.inl (fun _ => 0)))), (q5, .inl (cI, 49152, (.inl (fun _ => 0)))), (q7, .inl (cZ, 768, (.inl (fun _ => 0)))), (q46, .inl (cI, 4096, (.inl (fun _ => 0))))] H_175 := hP_175
  clear hP_175
  have hD_177 : va_D A [(h0, .inr (12, (fs_45.set 33 (.ref q46)))), (q1, .inl (cI, 4000, (.inl (fun _ => 0)))), (q3, .inl (cI, 6, (.inl (fun _ => 0)))), (q5, .inl (cI, 49152, (.inl (fun _ => 0)))), (q7, .inl (cZ, 768, (.inl (fun _ => 0)))), (q46, .inl (cI, 4096, (.inl (fun _ => 0))))] := hD_175
  clear hD_175
  obtain ⟨fs_47, efs_47⟩ : ∃ y, y = (fs_45.set 33 (.ref q46)) := ⟨_, rfl⟩
  rw [← efs_47] at hP_176 hD_177
  have hfl_47 : fs_47.length = 172 := by rw [efs_47, List.length_set]; exact hfl_45
  clear hfl_45
  have el_47 : fs_47 = [.int 0, .ref q1, .int 0, .int 0, .ref q3, .ref q5, .ref q7, .int 0, .ref q9, .ref q11, .ref q13, .ref q15, .ref q17, .ref q19, .ref q21, .int 1, .int 0, .ref q24, .ref q26, .int 0, .int 0, .ref q28, .ref q30, .ref q32, .ref q34, .ref q36, .int 0, .ref q38, .ref q40, .int 0, .int 0, .ref q42, .ref q44, .ref q46, .int 0, .null, .null, .null, .null, .int 0, .int 0, .int 0, .int 0, .int 0, .int 0, .int 0, .int 0, .int 0, .int 0, .int 0, .null, .null, .int 0, .int 0, .null, .int 0, .int 0, .int 0, .int 0, .int 0, .null, .null, .null, .null, .null, .null, .null, .null, .null, .null, .null, .null, .null, .null, .null, .null, .null, .null, .null, .null, .null, .null, .null, .null, .null, .null, .null, .null, .null, .null, .null, .int 0, .int 0, .int 0, .null, .null, .null, .int 0, .null, .null, .null, .null, .int 0, .null, .null, .null, .int 0, .int 0, .int 0, .int 0, .int 0, .null, .null, .null, .null, .null, .null, .null, .null, .null, .int 0, .null, .int 0, .null, .int 0, .null, .null, .null, .int 0, .int 0, .null, .null, .null, .null, .null, .int 0, .int 0, .int 0, .null, .int 0, .null, .int 0, .null, .null, .null, .null, .int 0, .int 0, .null, .int 0, .null, .int 0, .null, .null, .null, .null, .null, .int 0, .null, .null, .null, .int 0, .null, .null, .null, .null, .null, .int 0, .null, .null, .null, .null] := by rw [efs_47, efs_45, efs_43, efs_41, efs_39, efs_37, efs_35, efs_33, efs_31, efs_29, efs_27, efs_25, el_23]; rfl
  clear efs_25 efs_27 efs_29 efs_31 efs_33 efs_35 efs_37 efs_39 efs_41 efs_43 efs_45 efs_47 el_23
  have hP_178 := hP_176.sub (ws' := [(h0, .inr (12, fs_47)), (q1, .inl (cI, 4000, (.inl (fun _ => 0)))), (q3, .inl (cI, 6, (.inl (fun _ => 0)))), (q5, .inl (cI, 49152, (.inl (fun _ => 0)))), (q7, .inl (cZ, 768, (.inl (fun _ => 0))))]) [0, 1, 2, 3, 4] rfl
  clear hP_176
  have hD_179 := hD_177.sub (ws' := [(h0, .inr (12, fs_47)), (q1, .inl (cI, 4000, (.inl (fun _ => 0)))), (q3, .inl (cI, 6, (.inl (fun _ => 0)))), (q5, .inl (cI, 49152, (.inl (fun _ => 0)))), (q7, .inl (cZ, 768, (.inl (fun _ => 0))))]) [0, 1, 2, 3, 4] (by decide) rfl
  clear hD_177
  refine lv_aload_n hx hb dX12_init_199 rfl (lv_at hl 0 rfl) ?_
  refine lv_bipush (v := 64) hx hb dX12_init_200 (by decide) ?_
  refine nw_arr (atype := .int) (N' := 64) (a0 := (64, (.inl (fun _ => 0)))) hx hb (hts (.arrayClass .int) (List.mem_of_getElem? (i := 4) rfl)) rfl hK 0 (cI := cI) rfl hP_178 hD_179 hS_175 hA (fun _ => rfl) (by decide) (by decide) (by decide) (Nat.le_of_ble_eq_true rfl) (Nat.le_of_ble_eq_true rfl) dX12_init_202 (fun q48 H_180 hP_180 hD_180 hS_180 => ?_)
  clear hP_178 hD_179 hS_175
  have hP_181 : va_P (dC, dI) vwCl [(h0, .inr (12, fs_47)), (q1, .inl (cI, 4000, (.inl (fun _ => 0)))), (q3, .inl (cI, 6, (.inl (fun _ => 0)))), (q5, .inl (cI, 49152, (.inl (fun _ => 0)))), (q7, .inl (cZ, 768, (.inl (fun _ => 0)))), (q48, .inl (cI, 64, (.inl (fun _ => 0))))] H_180 := hP_180
  clear hP_180
  have hD_182 : va_D A [(h0, .inr (12, fs_47)), (q1, .inl (cI, 4000, (.inl (fun _ => 0)))), (q3, .inl (cI, 6, (.inl (fun _ => 0)))), (q5, .inl (cI, 49152, (.inl (fun _ => 0)))), (q7, .inl (cZ, 768, (.inl (fun _ => 0)))), (q48, .inl (cI, 64, (.inl (fun _ => 0))))] := hD_180
  clear hD_180
  refine W.widen (k := 24) (n := 262124) (by decide) (by decide) ?_
  refine va_putF (D := (dC, dI)) (ci := 12) (v := .ref q48) (ty := .array (.int)) (C := RX12) (T := TX12) (N := 172) hx hb hts inq_X12_init_c12 tyX12 tyX12_ok nmX12 hown hK hP_181 hD_182 hS_180 0 rfl rfl 35 (by decide) (hts (.fieldLink RX12 86 "DiskEvidenceModel" "one" "[I") (List.mem_of_getElem? (i := 32) rfl)) (fun _ h9 => h9) rfl hin rfl (by decide +kernel) rfl rfl (by rw [hfl_47]; decide) dX12_init_204 (fun H_183 locs_183 hP_183 hD_183 hS_183 => ?_)
  clear hP_181 hD_182 hS_180
  have hP_184 : va_P (dC, dI) vwCl [(h0, .inr (12, (fs_47.set 35 (.ref q48)))), (q1, .inl (cI, 4000, (.inl (fun _ => 0)))), (q3, .inl (cI, 6, (.inl (fun _ => 0)))), (q5, .inl (cI, 49152, (.inl (fun _ => 0)))), (q7, .inl (cZ, 768, (.inl (fun _ => 0)))), (q48, .inl (cI, 64, (.inl (fun _ => 0))))] H_183 := hP_183
  clear hP_183
  have hD_185 : va_D A [(h0, .inr (12, (fs_47.set 35 (.ref q48)))), (q1, .inl (cI, 4000, (.inl (fun _ => 0)))), (q3, .inl (cI, 6, (.inl (fun _ => 0)))), (q5, .inl (cI, 49152, (.inl (fun _ => 0)))), (q7, .inl (cZ, 768, (.inl (fun _ => 0)))), (q48, .inl (cI, 64, (.inl (fun _ => 0))))] := hD_183
  clear hD_183
  obtain ⟨fs_49, efs_49⟩ : ∃ y, y = (fs_47.set 35 (.ref q48)) := ⟨_, rfl⟩
  rw [← efs_49] at hP_184 hD_185
  have hfl_49 : fs_49.length = 172 := by rw [efs_49, List.length_set]; exact hfl_47
  clear hfl_47
  have hP_186 := hP_184.sub (ws' := [(h0, .inr (12, fs_49)), (q1, .inl (cI, 4000, (.inl (fun _ => 0)))), (q3, .inl (cI, 6, (.inl (fun _ => 0)))), (q5, .inl (cI, 49152, (.inl (fun _ => 0)))), (q7, .inl (cZ, 768, (.inl (fun _ => 0))))]) [0, 1, 2, 3, 4] rfl
  clear hP_184
  have hD_187 := hD_185.sub (ws' := [(h0, .inr (12, fs_49)), (q1, .inl (cI, 4000, (.inl (fun _ => 0)))), (q3, .inl (cI, 6, (.inl (fun _ => 0)))), (q5, .inl (cI, 49152, (.inl (fun _ => 0)))), (q7, .inl (cZ, 768, (.inl (fun _ => 0))))]) [0, 1, 2, 3, 4] (by decide) rfl
  clear hD_185
  refine lv_aload_n hx hb dX12_init_207 rfl (lv_at hl 0 rfl) ?_
  refine lv_bipush (v := 64) hx hb dX12_init_208 (by decide) ?_
  refine nw_arr (atype := .int) (N' := 64) (a0 := (64, (.inl (fun _ => 0)))) hx hb (hts (.arrayClass .int) (List.mem_of_getElem? (i := 4) rfl)) rfl hK 0 (cI := cI) rfl hP_186 hD_187 hS_183 hA (fun _ => rfl) (by decide) (by decide) (by decide) (Nat.le_of_ble_eq_true rfl) (Nat.le_of_ble_eq_true rfl) dX12_init_210 (fun q50 H_188 hP_188 hD_188 hS_188 => ?_)
  clear hP_186 hD_187 hS_183
  have hP_189 : va_P (dC, dI) vwCl [(h0, .inr (12, fs_49)), (q1, .inl (cI, 4000, (.inl (fun _ => 0)))), (q3, .inl (cI, 6, (.inl (fun _ => 0)))), (q5, .inl (cI, 49152, (.inl (fun _ => 0)))), (q7, .inl (cZ, 768, (.inl (fun _ => 0)))), (q50, .inl (cI, 64, (.inl (fun _ => 0))))] H_188 := hP_188
  clear hP_188
  have hD_190 : va_D A [(h0, .inr (12, fs_49)), (q1, .inl (cI, 4000, (.inl (fun _ => 0)))), (q3, .inl (cI, 6, (.inl (fun _ => 0)))), (q5, .inl (cI, 49152, (.inl (fun _ => 0)))), (q7, .inl (cZ, 768, (.inl (fun _ => 0)))), (q50, .inl (cI, 64, (.inl (fun _ => 0))))] := hD_188
  clear hD_188
  refine W.widen (k := 25) (n := 262188) (by decide) (by decide) ?_
  refine va_putF (D := (dC, dI)) (ci := 12) (v := .ref q50) (ty := .array (.int)) (C := RX12) (T := TX12) (N := 172) hx hb hts inq_X12_init_c12 tyX12 tyX12_ok nmX12 hown hK hP_189 hD_190 hS_188 0 rfl rfl 36 (by decide) (hts (.fieldLink RX12 89 "DiskEvidenceModel" "kept" "[I") (List.mem_of_getElem? (i := 33) rfl)) (fun _ h9 => h9) rfl hin rfl (by decide +kernel) rfl rfl (by rw [hfl_49]; decide) dX12_init_212 (fun H_191 locs_191 hP_191 hD_191 hS_191 => ?_)
  clear hP_189 hD_190 hS_188
  have hP_192 : va_P (dC, dI) vwCl [(h0, .inr (12, (fs_49.set 36 (.ref q50)))), (q1, .inl (cI, 4000, (.inl (fun _ => 0)))), (q3, .inl (cI, 6, (.inl (fun _ => 0)))), (q5, .inl (cI, 49152, (.inl (fun _ => 0)))), (q7, .inl (cZ, 768, (.inl (fun _ => 0)))), (q50, .inl (cI, 64, (.inl (fun _ => 0))))] H_191 := hP_191
  clear hP_191
  have hD_193 : va_D A [(h0, .inr (12, (fs_49.set 36 (.ref q50)))), (q1, .inl (cI, 4000, (.inl (fun _ => 0)))), (q3, .inl (cI, 6, (.inl (fun _ => 0)))), (q5, .inl (cI, 49152, (.inl (fun _ => 0)))), (q7, .inl (cZ, 768, (.inl (fun _ => 0)))), (q50, .inl (cI, 64, (.inl (fun _ => 0))))] := hD_191
  clear hD_191
  obtain ⟨fs_51, efs_51⟩ : ∃ y, y = (fs_49.set 36 (.ref q50)) := ⟨_, rfl⟩
  rw [← efs_51] at hP_192 hD_193
  have hfl_51 : fs_51.length = 172 := by rw [efs_51, List.length_set]; exact hfl_49
  clear hfl_49
  have hP_194 := hP_192.sub (ws' := [(h0, .inr (12, fs_51)), (q1, .inl (cI, 4000, (.inl (fun _ => 0)))), (q3, .inl (cI, 6, (.inl (fun _ => 0)))), (q5, .inl (cI, 49152, (.inl (fun _ => 0)))), (q7, .inl (cZ, 768, (.inl (fun _ => 0))))]) [0, 1, 2, 3, 4] rfl
  clear hP_192
  have hD_195 := hD_193.sub (ws' := [(h0, .inr (12, fs_51)), (q1, .inl (cI, 4000, (.inl (fun _ => 0)))), (q3, .inl (cI, 6, (.inl (fun _ => 0)))), (q5, .inl (cI, 49152, (.inl (fun _ => 0)))), (q7, .inl (cZ, 768, (.inl (fun _ => 0))))]) [0, 1, 2, 3, 4] (by decide) rfl
  clear hD_193
  refine lv_aload_n hx hb dX12_init_215 rfl (lv_at hl 0 rfl) ?_
  refine lv_sipush (v := 16384) hx hb dX12_init_216 (by decide) ?_
  refine nw_arr (atype := .int) (N' := 16384) (a0 := (16384, (.inl (fun _ => 0)))) hx hb (hts (.arrayClass .int) (List.mem_of_getElem? (i := 4) rfl)) rfl hK 0 (cI := cI) rfl hP_194 hD_195 hS_191 hA (fun _ => rfl) (by decide) (by decide) (by decide) (Nat.le_of_ble_eq_true rfl) (Nat.le_of_ble_eq_true rfl) dX12_init_219 (fun q52 H_196 hP_196 hD_196 hS_196 => ?_)
  clear hP_194 hD_195 hS_191
  have hP_197 : va_P (dC, dI) vwCl [(h0, .inr (12, fs_51)), (q1, .inl (cI, 4000, (.inl (fun _ => 0)))), (q3, .inl (cI, 6, (.inl (fun _ => 0)))), (q5, .inl (cI, 49152, (.inl (fun _ => 0)))), (q7, .inl (cZ, 768, (.inl (fun _ => 0)))), (q52, .inl (cI, 16384, (.inl (fun _ => 0))))] H_196 := hP_196
  clear hP_196
  have hD_198 : va_D A [(h0, .inr (12, fs_51)), (q1, .inl (cI, 4000, (.inl (fun _ => 0)))), (q3, .inl (cI, 6, (.inl (fun _ => 0)))), (q5, .inl (cI, 49152, (.inl (fun _ => 0)))), (q7, .inl (cZ, 768, (.inl (fun _ => 0)))), (q52, .inl (cI, 16384, (.inl (fun _ => 0))))] := hD_196
  clear hD_196
  refine W.widen (k := 26) (n := 278572) (by decide) (by decide) ?_
  refine va_putF (D := (dC, dI)) (ci := 12) (v := .ref q52) (ty := .array (.int)) (C := RX12) (T := TX12) (N := 172) hx hb hts inq_X12_init_c12 tyX12 tyX12_ok nmX12 hown hK hP_197 hD_198 hS_196 0 rfl rfl 37 (by decide) (hts (.fieldLink RX12 92 "DiskEvidenceModel" "image" "[I") (List.mem_of_getElem? (i := 34) rfl)) (fun _ h9 => h9) rfl hin rfl (by decide +kernel) rfl rfl (by rw [hfl_51]; decide) dX12_init_221 (fun H_199 locs_199 hP_199 hD_199 hS_199 => ?_)
  clear hP_197 hD_198 hS_196
  have hP_200 : va_P (dC, dI) vwCl [(h0, .inr (12, (fs_51.set 37 (.ref q52)))), (q1, .inl (cI, 4000, (.inl (fun _ => 0)))), (q3, .inl (cI, 6, (.inl (fun _ => 0)))), (q5, .inl (cI, 49152, (.inl (fun _ => 0)))), (q7, .inl (cZ, 768, (.inl (fun _ => 0)))), (q52, .inl (cI, 16384, (.inl (fun _ => 0))))] H_199 := hP_199
  clear hP_199
  have hD_201 : va_D A [(h0, .inr (12, (fs_51.set 37 (.ref q52)))), (q1, .inl (cI, 4000, (.inl (fun _ => 0)))), (q3, .inl (cI, 6, (.inl (fun _ => 0)))), (q5, .inl (cI, 49152, (.inl (fun _ => 0)))), (q7, .inl (cZ, 768, (.inl (fun _ => 0)))), (q52, .inl (cI, 16384, (.inl (fun _ => 0))))] := hD_199
  clear hD_199
  obtain ⟨fs_53, efs_53⟩ : ∃ y, y = (fs_51.set 37 (.ref q52)) := ⟨_, rfl⟩
  rw [← efs_53] at hP_200 hD_201
  have hfl_53 : fs_53.length = 172 := by rw [efs_53, List.length_set]; exact hfl_51
  clear hfl_51
  have hP_202 := hP_200.sub (ws' := [(h0, .inr (12, fs_53)), (q1, .inl (cI, 4000, (.inl (fun _ => 0)))), (q3, .inl (cI, 6, (.inl (fun _ => 0)))), (q5, .inl (cI, 49152, (.inl (fun _ => 0)))), (q7, .inl (cZ, 768, (.inl (fun _ => 0))))]) [0, 1, 2, 3, 4] rfl
  clear hP_200
  have hD_203 := hD_201.sub (ws' := [(h0, .inr (12, fs_53)), (q1, .inl (cI, 4000, (.inl (fun _ => 0)))), (q3, .inl (cI, 6, (.inl (fun _ => 0)))), (q5, .inl (cI, 49152, (.inl (fun _ => 0)))), (q7, .inl (cZ, 768, (.inl (fun _ => 0))))]) [0, 1, 2, 3, 4] (by decide) rfl
  clear hD_201
  refine lv_aload_n hx hb dX12_init_224 rfl (lv_at hl 0 rfl) ?_
  refine lv_sipush (v := 16384) hx hb dX12_init_225 (by decide) ?_
  refine nw_arr (atype := .int) (N' := 16384) (a0 := (16384, (.inl (fun _ => 0)))) hx hb (hts (.arrayClass .int) (List.mem_of_getElem? (i := 4) rfl)) rfl hK 0 (cI := cI) rfl hP_202 hD_203 hS_199 hA (fun _ => rfl) (by decide) (by decide) (by decide) (Nat.le_of_ble_eq_true rfl) (Nat.le_of_ble_eq_true rfl) dX12_init_228 (fun q54 H_204 hP_204 hD_204 hS_204 => ?_)
  clear hP_202 hD_203 hS_199
  have hP_205 : va_P (dC, dI) vwCl [(h0, .inr (12, fs_53)), (q1, .inl (cI, 4000, (.inl (fun _ => 0)))), (q3, .inl (cI, 6, (.inl (fun _ => 0)))), (q5, .inl (cI, 49152, (.inl (fun _ => 0)))), (q7, .inl (cZ, 768, (.inl (fun _ => 0)))), (q54, .inl (cI, 16384, (.inl (fun _ => 0))))] H_204 := hP_204
  clear hP_204
  have hD_206 : va_D A [(h0, .inr (12, fs_53)), (q1, .inl (cI, 4000, (.inl (fun _ => 0)))), (q3, .inl (cI, 6, (.inl (fun _ => 0)))), (q5, .inl (cI, 49152, (.inl (fun _ => 0)))), (q7, .inl (cZ, 768, (.inl (fun _ => 0)))), (q54, .inl (cI, 16384, (.inl (fun _ => 0))))] := hD_204
  clear hD_204
  refine W.widen (k := 27) (n := 294956) (by decide) (by decide) ?_
  refine va_putF (D := (dC, dI)) (ci := 12) (v := .ref q54) (ty := .array (.int)) (C := RX12) (T := TX12) (N := 172) hx hb hts inq_X12_init_c12 tyX12 tyX12_ok nmX12 hown hK hP_205 hD_206 hS_204 0 rfl rfl 38 (by decide) (hts (.fieldLink RX12 95 "DiskEvidenceModel" "old" "[I") (List.mem_of_getElem? (i := 35) rfl)) (fun _ h9 => h9) rfl hin rfl (by decide +kernel) rfl rfl (by rw [hfl_53]; decide) dX12_init_230 (fun H_207 locs_207 hP_207 hD_207 hS_207 => ?_)
  clear hP_205 hD_206 hS_204
  have hP_208 : va_P (dC, dI) vwCl [(h0, .inr (12, (fs_53.set 38 (.ref q54)))), (q1, .inl (cI, 4000, (.inl (fun _ => 0)))), (q3, .inl (cI, 6, (.inl (fun _ => 0)))), (q5, .inl (cI, 49152, (.inl (fun _ => 0)))), (q7, .inl (cZ, 768, (.inl (fun _ => 0)))), (q54, .inl (cI, 16384, (.inl (fun _ => 0))))] H_207 := hP_207
  clear hP_207
  have hD_209 : va_D A [(h0, .inr (12, (fs_53.set 38 (.ref q54)))), (q1, .inl (cI, 4000, (.inl (fun _ => 0)))), (q3, .inl (cI, 6, (.inl (fun _ => 0)))), (q5, .inl (cI, 49152, (.inl (fun _ => 0)))), (q7, .inl (cZ, 768, (.inl (fun _ => 0)))), (q54, .inl (cI, 16384, (.inl (fun _ => 0))))] := hD_207
  clear hD_207
  obtain ⟨fs_55, efs_55⟩ : ∃ y, y = (fs_53.set 38 (.ref q54)) := ⟨_, rfl⟩
  rw [← efs_55] at hP_208 hD_209
  have hfl_55 : fs_55.length = 172 := by rw [efs_55, List.length_set]; exact hfl_53
  clear hfl_53
  have hP_210 := hP_208.sub (ws' := [(h0, .inr (12, fs_55)), (q1, .inl (cI, 4000, (.inl (fun _ => 0)))), (q3, .inl (cI, 6, (.inl (fun _ => 0)))), (q5, .inl (cI, 49152, (.inl (fun _ => 0)))), (q7, .inl (cZ, 768, (.inl (fun _ => 0))))]) [0, 1, 2, 3, 4] rfl
  clear hP_208
  have hD_211 := hD_209.sub (ws' := [(h0, .inr (12, fs_55)), (q1, .inl (cI, 4000, (.inl (fun _ => 0)))), (q3, .inl (cI, 6, (.inl (fun _ => 0)))), (q5, .inl (cI, 49152, (.inl (fun _ => 0)))), (q7, .inl (cZ, 768, (.inl (fun _ => 0))))]) [0, 1, 2, 3, 4] (by decide) rfl
  clear hD_209
  refine lv_aload_n hx hb dX12_init_233 rfl (lv_at hl 0 rfl) ?_
  refine lv_bipush (v := 6) hx hb dX12_init_234 (by decide) ?_
  refine nw_arr (atype := .int) (N' := 6) (a0 := (6, (.inl (fun _ => 0)))) hx hb (hts (.arrayClass .int) (List.mem_of_getElem? (i := 4) rfl)) rfl hK 0 (cI := cI) rfl hP_210 hD_211 hS_207 hA (fun _ => rfl) (by decide) (by decide) (by decide) (Nat.le_of_ble_eq_true rfl) (Nat.le_of_ble_eq_true rfl) dX12_init_236 (fun q56 H_212 hP_212 hD_212 hS_212 => ?_)
  clear hP_210 hD_211 hS_207
  have hP_213 : va_P (dC, dI) vwCl [(h0, .inr (12, fs_55)), (q1, .inl (cI, 4000, (.inl (fun _ => 0)))), (q3, .inl (cI, 6, (.inl (fun _ => 0)))), (q5, .inl (cI, 49152, (.inl (fun _ => 0)))), (q7, .inl (cZ, 768, (.inl (fun _ => 0)))), (q56, .inl (cI, 6, (.inl (fun _ => 0))))] H_212 := hP_212
  clear hP_212
  have hD_214 : va_D A [(h0, .inr (12, fs_55)), (q1, .inl (cI, 4000, (.inl (fun _ => 0)))), (q3, .inl (cI, 6, (.inl (fun _ => 0)))), (q5, .inl (cI, 49152, (.inl (fun _ => 0)))), (q7, .inl (cZ, 768, (.inl (fun _ => 0)))), (q56, .inl (cI, 6, (.inl (fun _ => 0))))] := hD_212
  clear hD_212
  refine W.widen (k := 28) (n := 294962) (by decide) (by decide) ?_
  refine va_putF (D := (dC, dI)) (ci := 12) (v := .ref q56) (ty := .array (.int)) (C := RX12) (T := TX12) (N := 172) hx hb hts inq_X12_init_c12 tyX12 tyX12_ok nmX12 hown hK hP_213 hD_214 hS_212 0 rfl rfl 50 (by decide) (hts (.fieldLink RX12 98 "DiskEvidenceModel" "nameFrom" "[I") (List.mem_of_getElem? (i := 36) rfl)) (fun _ h9 => h9) rfl hin rfl (by decide +kernel) rfl rfl (by rw [hfl_55]; decide) dX12_init_238 (fun H_215 locs_215 hP_215 hD_215 hS_215 => ?_)
  clear hP_213 hD_214 hS_212
  have hP_216 : va_P (dC, dI) vwCl [(h0, .inr (12, (fs_55.set 50 (.ref q56)))), (q1, .inl (cI, 4000, (.inl (fun _ => 0)))), (q3, .inl (cI, 6, (.inl (fun _ => 0)))), (q5, .inl (cI, 49152, (.inl (fun _ => 0)))), (q7, .inl (cZ, 768, (.inl (fun _ => 0)))), (q56, .inl (cI, 6, (.inl (fun _ => 0))))] H_215 := hP_215
  clear hP_215
  have hD_217 : va_D A [(h0, .inr (12, (fs_55.set 50 (.ref q56)))), (q1, .inl (cI, 4000, (.inl (fun _ => 0)))), (q3, .inl (cI, 6, (.inl (fun _ => 0)))), (q5, .inl (cI, 49152, (.inl (fun _ => 0)))), (q7, .inl (cZ, 768, (.inl (fun _ => 0)))), (q56, .inl (cI, 6, (.inl (fun _ => 0))))] := hD_215
  clear hD_215
  obtain ⟨fs_57, efs_57⟩ : ∃ y, y = (fs_55.set 50 (.ref q56)) := ⟨_, rfl⟩
  rw [← efs_57] at hP_216 hD_217
  have hfl_57 : fs_57.length = 172 := by rw [efs_57, List.length_set]; exact hfl_55
  clear hfl_55
  have hP_218 := hP_216.sub (ws' := [(h0, .inr (12, fs_57)), (q1, .inl (cI, 4000, (.inl (fun _ => 0)))), (q3, .inl (cI, 6, (.inl (fun _ => 0)))), (q5, .inl (cI, 49152, (.inl (fun _ => 0)))), (q7, .inl (cZ, 768, (.inl (fun _ => 0))))]) [0, 1, 2, 3, 4] rfl
  clear hP_216
  have hD_219 := hD_217.sub (ws' := [(h0, .inr (12, fs_57)), (q1, .inl (cI, 4000, (.inl (fun _ => 0)))), (q3, .inl (cI, 6, (.inl (fun _ => 0)))), (q5, .inl (cI, 49152, (.inl (fun _ => 0)))), (q7, .inl (cZ, 768, (.inl (fun _ => 0))))]) [0, 1, 2, 3, 4] (by decide) rfl
  clear hD_217
  refine lv_aload_n hx hb dX12_init_241 rfl (lv_at hl 0 rfl) ?_
  refine lv_bipush (v := 6) hx hb dX12_init_242 (by decide) ?_
  refine nw_arr (atype := .int) (N' := 6) (a0 := (6, (.inl (fun _ => 0)))) hx hb (hts (.arrayClass .int) (List.mem_of_getElem? (i := 4) rfl)) rfl hK 0 (cI := cI) rfl hP_218 hD_219 hS_215 hA (fun _ => rfl) (by decide) (by decide) (by decide) (Nat.le_of_ble_eq_true rfl) (Nat.le_of_ble_eq_true rfl) dX12_init_244 (fun q58 H_220 hP_220 hD_220 hS_220 => ?_)
  clear hP_218 hD_219 hS_215
  have hP_221 : va_P (dC, dI) vwCl [(h0, .inr (12, fs_57)), (q1, .inl (cI, 4000, (.inl (fun _ => 0)))), (q3, .inl (cI, 6, (.inl (fun _ => 0)))), (q5, .inl (cI, 49152, (.inl (fun _ => 0)))), (q7, .inl (cZ, 768, (.inl (fun _ => 0)))), (q58, .inl (cI, 6, (.inl (fun _ => 0))))] H_220 := hP_220
  clear hP_220
  have hD_222 : va_D A [(h0, .inr (12, fs_57)), (q1, .inl (cI, 4000, (.inl (fun _ => 0)))), (q3, .inl (cI, 6, (.inl (fun _ => 0)))), (q5, .inl (cI, 49152, (.inl (fun _ => 0)))), (q7, .inl (cZ, 768, (.inl (fun _ => 0)))), (q58, .inl (cI, 6, (.inl (fun _ => 0))))] := hD_220
  clear hD_220
  refine W.widen (k := 29) (n := 294968) (by decide) (by decide) ?_
  refine va_putF (D := (dC, dI)) (ci := 12) (v := .ref q58) (ty := .array (.int)) (C := RX12) (T := TX12) (N := 172) hx hb hts inq_X12_init_c12 tyX12 tyX12_ok nmX12 hown hK hP_221 hD_222 hS_220 0 rfl rfl 51 (by decide) (hts (.fieldLink RX12 101 "DiskEvidenceModel" "nameTo" "[I") (List.mem_of_getElem? (i := 37) rfl)) (fun _ h9 => h9) rfl hin rfl (by decide +kernel) rfl rfl (by rw [hfl_57]; decide) dX12_init_246 (fun H_223 locs_223 hP_223 hD_223 hS_223 => ?_)
  clear hP_221 hD_222 hS_220
  have hP_224 : va_P (dC, dI) vwCl [(h0, .inr (12, (fs_57.set 51 (.ref q58)))), (q1, .inl (cI, 4000, (.inl (fun _ => 0)))), (q3, .inl (cI, 6, (.inl (fun _ => 0)))), (q5, .inl (cI, 49152, (.inl (fun _ => 0)))), (q7, .inl (cZ, 768, (.inl (fun _ => 0)))), (q58, .inl (cI, 6, (.inl (fun _ => 0))))] H_223 := hP_223
  clear hP_223
  have hD_225 : va_D A [(h0, .inr (12, (fs_57.set 51 (.ref q58)))), (q1, .inl (cI, 4000, (.inl (fun _ => 0)))), (q3, .inl (cI, 6, (.inl (fun _ => 0)))), (q5, .inl (cI, 49152, (.inl (fun _ => 0)))), (q7, .inl (cZ, 768, (.inl (fun _ => 0)))), (q58, .inl (cI, 6, (.inl (fun _ => 0))))] := hD_223
  clear hD_223
  obtain ⟨fs_59, efs_59⟩ : ∃ y, y = (fs_57.set 51 (.ref q58)) := ⟨_, rfl⟩
  rw [← efs_59] at hP_224 hD_225
  have hfl_59 : fs_59.length = 172 := by rw [efs_59, List.length_set]; exact hfl_57
  clear hfl_57
  have hP_226 := hP_224.sub (ws' := [(h0, .inr (12, fs_59)), (q1, .inl (cI, 4000, (.inl (fun _ => 0)))), (q3, .inl (cI, 6, (.inl (fun _ => 0)))), (q5, .inl (cI, 49152, (.inl (fun _ => 0)))), (q7, .inl (cZ, 768, (.inl (fun _ => 0))))]) [0, 1, 2, 3, 4] rfl
  clear hP_224
  have hD_227 := hD_225.sub (ws' := [(h0, .inr (12, fs_59)), (q1, .inl (cI, 4000, (.inl (fun _ => 0)))), (q3, .inl (cI, 6, (.inl (fun _ => 0)))), (q5, .inl (cI, 49152, (.inl (fun _ => 0)))), (q7, .inl (cZ, 768, (.inl (fun _ => 0))))]) [0, 1, 2, 3, 4] (by decide) rfl
  clear hD_225
  refine lv_aload_n hx hb dX12_init_249 rfl (lv_at hl 0 rfl) ?_
  refine lv_sipush (v := 320) hx hb dX12_init_250 (by decide) ?_
  refine nw_arr (atype := .int) (N' := 320) (a0 := (320, (.inl (fun _ => 0)))) hx hb (hts (.arrayClass .int) (List.mem_of_getElem? (i := 4) rfl)) rfl hK 0 (cI := cI) rfl hP_226 hD_227 hS_223 hA (fun _ => rfl) (by decide) (by decide) (by decide) (Nat.le_of_ble_eq_true rfl) (Nat.le_of_ble_eq_true rfl) dX12_init_253 (fun q60 H_228 hP_228 hD_228 hS_228 => ?_)
  clear hP_226 hD_227 hS_223
  have hP_229 : va_P (dC, dI) vwCl [(h0, .inr (12, fs_59)), (q1, .inl (cI, 4000, (.inl (fun _ => 0)))), (q3, .inl (cI, 6, (.inl (fun _ => 0)))), (q5, .inl (cI, 49152, (.inl (fun _ => 0)))), (q7, .inl (cZ, 768, (.inl (fun _ => 0)))), (q60, .inl (cI, 320, (.inl (fun _ => 0))))] H_228 := hP_228
  clear hP_228
  have hD_230 : va_D A [(h0, .inr (12, fs_59)), (q1, .inl (cI, 4000, (.inl (fun _ => 0)))), (q3, .inl (cI, 6, (.inl (fun _ => 0)))), (q5, .inl (cI, 49152, (.inl (fun _ => 0)))), (q7, .inl (cZ, 768, (.inl (fun _ => 0)))), (q60, .inl (cI, 320, (.inl (fun _ => 0))))] := hD_228
  clear hD_228
  refine W.widen (k := 30) (n := 295288) (by decide) (by decide) ?_
  refine va_putF (D := (dC, dI)) (ci := 12) (v := .ref q60) (ty := .array (.int)) (C := RX12) (T := TX12) (N := 172) hx hb hts inq_X12_init_c12 tyX12 tyX12_ok nmX12 hown hK hP_229 hD_230 hS_228 0 rfl rfl 54 (by decide) (hts (.fieldLink RX12 104 "DiskEvidenceModel" "link" "[I") (List.mem_of_getElem? (i := 38) rfl)) (fun _ h9 => h9) rfl hin rfl (by decide +kernel) rfl rfl (by rw [hfl_59]; decide) dX12_init_255 (fun H_231 locs_231 hP_231 hD_231 hS_231 => ?_)
  clear hP_229 hD_230 hS_228
  have hP_232 : va_P (dC, dI) vwCl [(h0, .inr (12, (fs_59.set 54 (.ref q60)))), (q1, .inl (cI, 4000, (.inl (fun _ => 0)))), (q3, .inl (cI, 6, (.inl (fun _ => 0)))), (q5, .inl (cI, 49152, (.inl (fun _ => 0)))), (q7, .inl (cZ, 768, (.inl (fun _ => 0)))), (q60, .inl (cI, 320, (.inl (fun _ => 0))))] H_231 := hP_231
  clear hP_231
  have hD_233 : va_D A [(h0, .inr (12, (fs_59.set 54 (.ref q60)))), (q1, .inl (cI, 4000, (.inl (fun _ => 0)))), (q3, .inl (cI, 6, (.inl (fun _ => 0)))), (q5, .inl (cI, 49152, (.inl (fun _ => 0)))), (q7, .inl (cZ, 768, (.inl (fun _ => 0)))), (q60, .inl (cI, 320, (.inl (fun _ => 0))))] := hD_231
  clear hD_231
  obtain ⟨fs_61, efs_61⟩ : ∃ y, y = (fs_59.set 54 (.ref q60)) := ⟨_, rfl⟩
  rw [← efs_61] at hP_232 hD_233
  have hfl_61 : fs_61.length = 172 := by rw [efs_61, List.length_set]; exact hfl_59
  clear hfl_59
  have hP_234 := hP_232.sub (ws' := [(h0, .inr (12, fs_61)), (q1, .inl (cI, 4000, (.inl (fun _ => 0)))), (q3, .inl (cI, 6, (.inl (fun _ => 0)))), (q5, .inl (cI, 49152, (.inl (fun _ => 0)))), (q7, .inl (cZ, 768, (.inl (fun _ => 0))))]) [0, 1, 2, 3, 4] rfl
  clear hP_232
  have hD_235 := hD_233.sub (ws' := [(h0, .inr (12, fs_61)), (q1, .inl (cI, 4000, (.inl (fun _ => 0)))), (q3, .inl (cI, 6, (.inl (fun _ => 0)))), (q5, .inl (cI, 49152, (.inl (fun _ => 0)))), (q7, .inl (cZ, 768, (.inl (fun _ => 0))))]) [0, 1, 2, 3, 4] (by decide) rfl
  clear hD_233
  refine lv_aload_n hx hb dX12_init_258 rfl (lv_at hl 0 rfl) ?_
  refine lv_bipush (v := 6) hx hb dX12_init_259 (by decide) ?_
  refine nw_arr (atype := .int) (N' := 6) (a0 := (6, (.inl (fun _ => 0)))) hx hb (hts (.arrayClass .int) (List.mem_of_getElem? (i := 4) rfl)) rfl hK 0 (cI := cI) rfl hP_234 hD_235 hS_231 hA (fun _ => rfl) (by decide) (by decide) (by decide) (Nat.le_of_ble_eq_true rfl) (Nat.le_of_ble_eq_true rfl) dX12_init_261 (fun q62 H_236 hP_236 hD_236 hS_236 => ?_)
  clear hP_234 hD_235 hS_231
  have hP_237 : va_P (dC, dI) vwCl [(h0, .inr (12, fs_61)), (q1, .inl (cI, 4000, (.inl (fun _ => 0)))), (q3, .inl (cI, 6, (.inl (fun _ => 0)))), (q5, .inl (cI, 49152, (.inl (fun _ => 0)))), (q7, .inl (cZ, 768, (.inl (fun _ => 0)))), (q62, .inl (cI, 6, (.inl (fun _ => 0))))] H_236 := hP_236
  clear hP_236
  have hD_238 : va_D A [(h0, .inr (12, fs_61)), (q1, .inl (cI, 4000, (.inl (fun _ => 0)))), (q3, .inl (cI, 6, (.inl (fun _ => 0)))), (q5, .inl (cI, 49152, (.inl (fun _ => 0)))), (q7, .inl (cZ, 768, (.inl (fun _ => 0)))), (q62, .inl (cI, 6, (.inl (fun _ => 0))))] := hD_236
  clear hD_236
  refine W.widen (k := 31) (n := 295294) (by decide) (by decide) ?_
  refine va_putF (D := (dC, dI)) (ci := 12) (v := .ref q62) (ty := .array (.int)) (C := RX12) (T := TX12) (N := 172) hx hb hts inq_X12_init_c12 tyX12 tyX12_ok nmX12 hown hK hP_237 hD_238 hS_236 0 rfl rfl 60 (by decide) (hts (.fieldLink RX12 107 "DiskEvidenceModel" "treeForm" "[I") (List.mem_of_getElem? (i := 39) rfl)) (fun _ h9 => h9) rfl hin rfl (by decide +kernel) rfl rfl (by rw [hfl_61]; decide) dX12_init_263 (fun H_239 locs_239 hP_239 hD_239 hS_239 => ?_)
  clear hP_237 hD_238 hS_236
  have hP_240 : va_P (dC, dI) vwCl [(h0, .inr (12, (fs_61.set 60 (.ref q62)))), (q1, .inl (cI, 4000, (.inl (fun _ => 0)))), (q3, .inl (cI, 6, (.inl (fun _ => 0)))), (q5, .inl (cI, 49152, (.inl (fun _ => 0)))), (q7, .inl (cZ, 768, (.inl (fun _ => 0)))), (q62, .inl (cI, 6, (.inl (fun _ => 0))))] H_239 := hP_239
  clear hP_239
  have hD_241 : va_D A [(h0, .inr (12, (fs_61.set 60 (.ref q62)))), (q1, .inl (cI, 4000, (.inl (fun _ => 0)))), (q3, .inl (cI, 6, (.inl (fun _ => 0)))), (q5, .inl (cI, 49152, (.inl (fun _ => 0)))), (q7, .inl (cZ, 768, (.inl (fun _ => 0)))), (q62, .inl (cI, 6, (.inl (fun _ => 0))))] := hD_239
  clear hD_239
  obtain ⟨fs_63, efs_63⟩ : ∃ y, y = (fs_61.set 60 (.ref q62)) := ⟨_, rfl⟩
  rw [← efs_63] at hP_240 hD_241
  have hfl_63 : fs_63.length = 172 := by rw [efs_63, List.length_set]; exact hfl_61
  clear hfl_61
  have hP_242 := hP_240.sub (ws' := [(h0, .inr (12, fs_63)), (q1, .inl (cI, 4000, (.inl (fun _ => 0)))), (q3, .inl (cI, 6, (.inl (fun _ => 0)))), (q5, .inl (cI, 49152, (.inl (fun _ => 0)))), (q7, .inl (cZ, 768, (.inl (fun _ => 0))))]) [0, 1, 2, 3, 4] rfl
  clear hP_240
  have hD_243 := hD_241.sub (ws' := [(h0, .inr (12, fs_63)), (q1, .inl (cI, 4000, (.inl (fun _ => 0)))), (q3, .inl (cI, 6, (.inl (fun _ => 0)))), (q5, .inl (cI, 49152, (.inl (fun _ => 0)))), (q7, .inl (cZ, 768, (.inl (fun _ => 0))))]) [0, 1, 2, 3, 4] (by decide) rfl
  clear hD_241
  refine lv_aload_n hx hb dX12_init_266 rfl (lv_at hl 0 rfl) ?_
  refine lv_bipush (v := 6) hx hb dX12_init_267 (by decide) ?_
  refine nw_arr (atype := .int) (N' := 6) (a0 := (6, (.inl (fun _ => 0)))) hx hb (hts (.arrayClass .int) (List.mem_of_getElem? (i := 4) rfl)) rfl hK 0 (cI := cI) rfl hP_242 hD_243 hS_239 hA (fun _ => rfl) (by decide) (by decide) (by decide) (Nat.le_of_ble_eq_true rfl) (Nat.le_of_ble_eq_true rfl) dX12_init_269 (fun q64 H_244 hP_244 hD_244 hS_244 => ?_)
  clear hP_242 hD_243 hS_239
  have hP_245 : va_P (dC, dI) vwCl [(h0, .inr (12, fs_63)), (q1, .inl (cI, 4000, (.inl (fun _ => 0)))), (q3, .inl (cI, 6, (.inl (fun _ => 0)))), (q5, .inl (cI, 49152, (.inl (fun _ => 0)))), (q7, .inl (cZ, 768, (.inl (fun _ => 0)))), (q64, .inl (cI, 6, (.inl (fun _ => 0))))] H_244 := hP_244
  clear hP_244
  have hD_246 : va_D A [(h0, .inr (12, fs_63)), (q1, .inl (cI, 4000, (.inl (fun _ => 0)))), (q3, .inl (cI, 6, (.inl (fun _ => 0)))), (q5, .inl (cI, 49152, (.inl (fun _ => 0)))), (q7, .inl (cZ, 768, (.inl (fun _ => 0)))), (q64, .inl (cI, 6, (.inl (fun _ => 0))))] := hD_244
  clear hD_244
  refine W.widen (k := 32) (n := 295300) (by decide) (by decide) ?_
  refine va_putF (D := (dC, dI)) (ci := 12) (v := .ref q64) (ty := .array (.int)) (C := RX12) (T := TX12) (N := 172) hx hb hts inq_X12_init_c12 tyX12 tyX12_ok nmX12 hown hK hP_245 hD_246 hS_244 0 rfl rfl 61 (by decide) (hts (.fieldLink RX12 110 "DiskEvidenceModel" "treeVolume" "[I") (List.mem_of_getElem? (i := 40) rfl)) (fun _ h9 => h9) rfl hin rfl (by decide +kernel) rfl rfl (by rw [hfl_63]; decide) dX12_init_271 (fun H_247 locs_247 hP_247 hD_247 hS_247 => ?_)
  clear hP_245 hD_246 hS_244
  have hP_248 : va_P (dC, dI) vwCl [(h0, .inr (12, (fs_63.set 61 (.ref q64)))), (q1, .inl (cI, 4000, (.inl (fun _ => 0)))), (q3, .inl (cI, 6, (.inl (fun _ => 0)))), (q5, .inl (cI, 49152, (.inl (fun _ => 0)))), (q7, .inl (cZ, 768, (.inl (fun _ => 0)))), (q64, .inl (cI, 6, (.inl (fun _ => 0))))] H_247 := hP_247
  clear hP_247
  have hD_249 : va_D A [(h0, .inr (12, (fs_63.set 61 (.ref q64)))), (q1, .inl (cI, 4000, (.inl (fun _ => 0)))), (q3, .inl (cI, 6, (.inl (fun _ => 0)))), (q5, .inl (cI, 49152, (.inl (fun _ => 0)))), (q7, .inl (cZ, 768, (.inl (fun _ => 0)))), (q64, .inl (cI, 6, (.inl (fun _ => 0))))] := hD_247
  clear hD_247
  obtain ⟨fs_65, efs_65⟩ : ∃ y, y = (fs_63.set 61 (.ref q64)) := ⟨_, rfl⟩
  rw [← efs_65] at hP_248 hD_249
  have hfl_65 : fs_65.length = 172 := by rw [efs_65, List.length_set]; exact hfl_63
  clear hfl_63
  have hP_250 := hP_248.sub (ws' := [(h0, .inr (12, fs_65)), (q1, .inl (cI, 4000, (.inl (fun _ => 0)))), (q3, .inl (cI, 6, (.inl (fun _ => 0)))), (q5, .inl (cI, 49152, (.inl (fun _ => 0)))), (q7, .inl (cZ, 768, (.inl (fun _ => 0))))]) [0, 1, 2, 3, 4] rfl
  clear hP_248
  have hD_251 := hD_249.sub (ws' := [(h0, .inr (12, fs_65)), (q1, .inl (cI, 4000, (.inl (fun _ => 0)))), (q3, .inl (cI, 6, (.inl (fun _ => 0)))), (q5, .inl (cI, 49152, (.inl (fun _ => 0)))), (q7, .inl (cZ, 768, (.inl (fun _ => 0))))]) [0, 1, 2, 3, 4] (by decide) rfl
  clear hD_249
  refine lv_aload_n hx hb dX12_init_274 rfl (lv_at hl 0 rfl) ?_
  refine lv_bipush (v := 6) hx hb dX12_init_275 (by decide) ?_
  refine nw_arr (atype := .int) (N' := 6) (a0 := (6, (.inl (fun _ => 0)))) hx hb (hts (.arrayClass .int) (List.mem_of_getElem? (i := 4) rfl)) rfl hK 0 (cI := cI) rfl hP_250 hD_251 hS_247 hA (fun _ => rfl) (by decide) (by decide) (by decide) (Nat.le_of_ble_eq_true rfl) (Nat.le_of_ble_eq_true rfl) dX12_init_277 (fun q66 H_252 hP_252 hD_252 hS_252 => ?_)
  clear hP_250 hD_251 hS_247
  have hP_253 : va_P (dC, dI) vwCl [(h0, .inr (12, fs_65)), (q1, .inl (cI, 4000, (.inl (fun _ => 0)))), (q3, .inl (cI, 6, (.inl (fun _ => 0)))), (q5, .inl (cI, 49152, (.inl (fun _ => 0)))), (q7, .inl (cZ, 768, (.inl (fun _ => 0)))), (q66, .inl (cI, 6, (.inl (fun _ => 0))))] H_252 := hP_252
  clear hP_252
  have hD_254 : va_D A [(h0, .inr (12, fs_65)), (q1, .inl (cI, 4000, (.inl (fun _ => 0)))), (q3, .inl (cI, 6, (.inl (fun _ => 0)))), (q5, .inl (cI, 49152, (.inl (fun _ => 0)))), (q7, .inl (cZ, 768, (.inl (fun _ => 0)))), (q66, .inl (cI, 6, (.inl (fun _ => 0))))] := hD_252
  clear hD_252
  refine W.widen (k := 33) (n := 295306) (by decide) (by decide) ?_
  refine va_putF (D := (dC, dI)) (ci := 12) (v := .ref q66) (ty := .array (.int)) (C := RX12) (T := TX12) (N := 172) hx hb hts inq_X12_init_c12 tyX12 tyX12_ok nmX12 hown hK hP_253 hD_254 hS_252 0 rfl rfl 62 (by decide) (hts (.fieldLink RX12 113 "DiskEvidenceModel" "treeSpan" "[I") (List.mem_of_getElem? (i := 41) rfl)) (fun _ h9 => h9) rfl hin rfl (by decide +kernel) rfl rfl (by rw [hfl_65]; decide) dX12_init_279 (fun H_255 locs_255 hP_255 hD_255 hS_255 => ?_)
  clear hP_253 hD_254 hS_252
  have hP_256 : va_P (dC, dI) vwCl [(h0, .inr (12, (fs_65.set 62 (.ref q66)))), (q1, .inl (cI, 4000, (.inl (fun _ => 0)))), (q3, .inl (cI, 6, (.inl (fun _ => 0)))), (q5, .inl (cI, 49152, (.inl (fun _ => 0)))), (q7, .inl (cZ, 768, (.inl (fun _ => 0)))), (q66, .inl (cI, 6, (.inl (fun _ => 0))))] H_255 := hP_255
  clear hP_255
  have hD_257 : va_D A [(h0, .inr (12, (fs_65.set 62 (.ref q66)))), (q1, .inl (cI, 4000, (.inl (fun _ => 0)))), (q3, .inl (cI, 6, (.inl (fun _ => 0)))), (q5, .inl (cI, 49152, (.inl (fun _ => 0)))), (q7, .inl (cZ, 768, (.inl (fun _ => 0)))), (q66, .inl (cI, 6, (.inl (fun _ => 0))))] := hD_255
  clear hD_255
  obtain ⟨fs_67, efs_67⟩ : ∃ y, y = (fs_65.set 62 (.ref q66)) := ⟨_, rfl⟩
  rw [← efs_67] at hP_256 hD_257
  have hfl_67 : fs_67.length = 172 := by rw [efs_67, List.length_set]; exact hfl_65
  clear hfl_65
  have hP_258 := hP_256.sub (ws' := [(h0, .inr (12, fs_67)), (q1, .inl (cI, 4000, (.inl (fun _ => 0)))), (q3, .inl (cI, 6, (.inl (fun _ => 0)))), (q5, .inl (cI, 49152, (.inl (fun _ => 0)))), (q7, .inl (cZ, 768, (.inl (fun _ => 0))))]) [0, 1, 2, 3, 4] rfl
  clear hP_256
  have hD_259 := hD_257.sub (ws' := [(h0, .inr (12, fs_67)), (q1, .inl (cI, 4000, (.inl (fun _ => 0)))), (q3, .inl (cI, 6, (.inl (fun _ => 0)))), (q5, .inl (cI, 49152, (.inl (fun _ => 0)))), (q7, .inl (cZ, 768, (.inl (fun _ => 0))))]) [0, 1, 2, 3, 4] (by decide) rfl
  clear hD_257
  refine lv_aload_n hx hb dX12_init_282 rfl (lv_at hl 0 rfl) ?_
  refine lv_bipush (v := 6) hx hb dX12_init_283 (by decide) ?_
  refine nw_arr (atype := .int) (N' := 6) (a0 := (6, (.inl (fun _ => 0)))) hx hb (hts (.arrayClass .int) (List.mem_of_getElem? (i := 4) rfl)) rfl hK 0 (cI := cI) rfl hP_258 hD_259 hS_255 hA (fun _ => rfl) (by decide) (by decide) (by decide) (Nat.le_of_ble_eq_true rfl) (Nat.le_of_ble_eq_true rfl) dX12_init_285 (fun q68 H_260 hP_260 hD_260 hS_260 => ?_)
  clear hP_258 hD_259 hS_255
  have hP_261 : va_P (dC, dI) vwCl [(h0, .inr (12, fs_67)), (q1, .inl (cI, 4000, (.inl (fun _ => 0)))), (q3, .inl (cI, 6, (.inl (fun _ => 0)))), (q5, .inl (cI, 49152, (.inl (fun _ => 0)))), (q7, .inl (cZ, 768, (.inl (fun _ => 0)))), (q68, .inl (cI, 6, (.inl (fun _ => 0))))] H_260 := hP_260
  clear hP_260
  have hD_262 : va_D A [(h0, .inr (12, fs_67)), (q1, .inl (cI, 4000, (.inl (fun _ => 0)))), (q3, .inl (cI, 6, (.inl (fun _ => 0)))), (q5, .inl (cI, 49152, (.inl (fun _ => 0)))), (q7, .inl (cZ, 768, (.inl (fun _ => 0)))), (q68, .inl (cI, 6, (.inl (fun _ => 0))))] := hD_260
  clear hD_260
  refine W.widen (k := 34) (n := 295312) (by decide) (by decide) ?_
  refine va_putF (D := (dC, dI)) (ci := 12) (v := .ref q68) (ty := .array (.int)) (C := RX12) (T := TX12) (N := 172) hx hb hts inq_X12_init_c12 tyX12 tyX12_ok nmX12 hown hK hP_261 hD_262 hS_260 0 rfl rfl 63 (by decide) (hts (.fieldLink RX12 116 "DiskEvidenceModel" "treeBlocks" "[I") (List.mem_of_getElem? (i := 42) rfl)) (fun _ h9 => h9) rfl hin rfl (by decide +kernel) rfl rfl (by rw [hfl_67]; decide) dX12_init_287 (fun H_263 locs_263 hP_263 hD_263 hS_263 => ?_)
  clear hP_261 hD_262 hS_260
  have hP_264 : va_P (dC, dI) vwCl [(h0, .inr (12, (fs_67.set 63 (.ref q68)))), (q1, .inl (cI, 4000, (.inl (fun _ => 0)))), (q3, .inl (cI, 6, (.inl (fun _ => 0)))), (q5, .inl (cI, 49152, (.inl (fun _ => 0)))), (q7, .inl (cZ, 768, (.inl (fun _ => 0)))), (q68, .inl (cI, 6, (.inl (fun _ => 0))))] H_263 := hP_263
  clear hP_263
  have hD_265 : va_D A [(h0, .inr (12, (fs_67.set 63 (.ref q68)))), (q1, .inl (cI, 4000, (.inl (fun _ => 0)))), (q3, .inl (cI, 6, (.inl (fun _ => 0)))), (q5, .inl (cI, 49152, (.inl (fun _ => 0)))), (q7, .inl (cZ, 768, (.inl (fun _ => 0)))), (q68, .inl (cI, 6, (.inl (fun _ => 0))))] := hD_263
  clear hD_263
  obtain ⟨fs_69, efs_69⟩ : ∃ y, y = (fs_67.set 63 (.ref q68)) := ⟨_, rfl⟩
  rw [← efs_69] at hP_264 hD_265
  have hfl_69 : fs_69.length = 172 := by rw [efs_69, List.length_set]; exact hfl_67
  clear hfl_67
  have hP_266 := hP_264.sub (ws' := [(h0, .inr (12, fs_69)), (q1, .inl (cI, 4000, (.inl (fun _ => 0)))), (q3, .inl (cI, 6, (.inl (fun _ => 0)))), (q5, .inl (cI, 49152, (.inl (fun _ => 0)))), (q7, .inl (cZ, 768, (.inl (fun _ => 0))))]) [0, 1, 2, 3, 4] rfl
  clear hP_264
  have hD_267 := hD_265.sub (ws' := [(h0, .inr (12, fs_69)), (q1, .inl (cI, 4000, (.inl (fun _ => 0)))), (q3, .inl (cI, 6, (.inl (fun _ => 0)))), (q5, .inl (cI, 49152, (.inl (fun _ => 0)))), (q7, .inl (cZ, 768, (.inl (fun _ => 0))))]) [0, 1, 2, 3, 4] (by decide) rfl
  clear hD_265
  refine lv_aload_n hx hb dX12_init_290 rfl (lv_at hl 0 rfl) ?_
  refine lv_bipush (v := 6) hx hb dX12_init_291 (by decide) ?_
  refine nw_arr (atype := .int) (N' := 6) (a0 := (6, (.inl (fun _ => 0)))) hx hb (hts (.arrayClass .int) (List.mem_of_getElem? (i := 4) rfl)) rfl hK 0 (cI := cI) rfl hP_266 hD_267 hS_263 hA (fun _ => rfl) (by decide) (by decide) (by decide) (Nat.le_of_ble_eq_true rfl) (Nat.le_of_ble_eq_true rfl) dX12_init_293 (fun q70 H_268 hP_268 hD_268 hS_268 => ?_)
  clear hP_266 hD_267 hS_263
  have hP_269 : va_P (dC, dI) vwCl [(h0, .inr (12, fs_69)), (q1, .inl (cI, 4000, (.inl (fun _ => 0)))), (q3, .inl (cI, 6, (.inl (fun _ => 0)))), (q5, .inl (cI, 49152, (.inl (fun _ => 0)))), (q7, .inl (cZ, 768, (.inl (fun _ => 0)))), (q70, .inl (cI, 6, (.inl (fun _ => 0))))] H_268 := hP_268
  clear hP_268
  have hD_270 : va_D A [(h0, .inr (12, fs_69)), (q1, .inl (cI, 4000, (.inl (fun _ => 0)))), (q3, .inl (cI, 6, (.inl (fun _ => 0)))), (q5, .inl (cI, 49152, (.inl (fun _ => 0)))), (q7, .inl (cZ, 768, (.inl (fun _ => 0)))), (q70, .inl (cI, 6, (.inl (fun _ => 0))))] := hD_268
  clear hD_268
  refine W.widen (k := 35) (n := 295318) (by decide) (by decide) ?_
  refine va_putF (D := (dC, dI)) (ci := 12) (v := .ref q70) (ty := .array (.int)) (C := RX12) (T := TX12) (N := 172) hx hb hts inq_X12_init_c12 tyX12 tyX12_ok nmX12 hown hK hP_269 hD_270 hS_268 0 rfl rfl 64 (by decide) (hts (.fieldLink RX12 119 "DiskEvidenceModel" "treeZone" "[I") (List.mem_of_getElem? (i := 43) rfl)) (fun _ h9 => h9) rfl hin rfl (by decide +kernel) rfl rfl (by rw [hfl_69]; decide) dX12_init_295 (fun H_271 locs_271 hP_271 hD_271 hS_271 => ?_)
  clear hP_269 hD_270 hS_268
  have hP_272 : va_P (dC, dI) vwCl [(h0, .inr (12, (fs_69.set 64 (.ref q70)))), (q1, .inl (cI, 4000, (.inl (fun _ => 0)))), (q3, .inl (cI, 6, (.inl (fun _ => 0)))), (q5, .inl (cI, 49152, (.inl (fun _ => 0)))), (q7, .inl (cZ, 768, (.inl (fun _ => 0)))), (q70, .inl (cI, 6, (.inl (fun _ => 0))))] H_271 := hP_271
  clear hP_271
  have hD_273 : va_D A [(h0, .inr (12, (fs_69.set 64 (.ref q70)))), (q1, .inl (cI, 4000, (.inl (fun _ => 0)))), (q3, .inl (cI, 6, (.inl (fun _ => 0)))), (q5, .inl (cI, 49152, (.inl (fun _ => 0)))), (q7, .inl (cZ, 768, (.inl (fun _ => 0)))), (q70, .inl (cI, 6, (.inl (fun _ => 0))))] := hD_271
  clear hD_271
  obtain ⟨fs_71, efs_71⟩ : ∃ y, y = (fs_69.set 64 (.ref q70)) := ⟨_, rfl⟩
  rw [← efs_71] at hP_272 hD_273
  have hfl_71 : fs_71.length = 172 := by rw [efs_71, List.length_set]; exact hfl_69
  clear hfl_69
  have el_71 : fs_71 = [.int 0, .ref q1, .int 0, .int 0, .ref q3, .ref q5, .ref q7, .int 0, .ref q9, .ref q11, .ref q13, .ref q15, .ref q17, .ref q19, .ref q21, .int 1, .int 0, .ref q24, .ref q26, .int 0, .int 0, .ref q28, .ref q30, .ref q32, .ref q34, .ref q36, .int 0, .ref q38, .ref q40, .int 0, .int 0, .ref q42, .ref q44, .ref q46, .int 0, .ref q48, .ref q50, .ref q52, .ref q54, .int 0, .int 0, .int 0, .int 0, .int 0, .int 0, .int 0, .int 0, .int 0, .int 0, .int 0, .ref q56, .ref q58, .int 0, .int 0, .ref q60, .int 0, .int 0, .int 0, .int 0, .int 0, .ref q62, .ref q64, .ref q66, .ref q68, .ref q70, .null, .null, .null, .null, .null, .null, .null, .null, .null, .null, .null, .null, .null, .null, .null, .null, .null, .null, .null, .null, .null, .null, .null, .null, .null, .null, .int 0, .int 0, .int 0, .null, .null, .null, .int 0, .null, .null, .null, .null, .int 0, .null, .null, .null, .int 0, .int 0, .int 0, .int 0, .int 0, .null, .null, .null, .null, .null, .null, .null, .null, .null, .int 0, .null, .int 0, .null, .int 0, .null, .null, .null, .int 0, .int 0, .null, .null, .null, .null, .null, .int 0, .int 0, .int 0, .null, .int 0, .null, .int 0, .null, .null, .null, .null, .int 0, .int 0, .null, .int 0, .null, .int 0, .null, .null, .null, .null, .null, .int 0, .null, .null, .null, .int 0, .null, .null, .null, .null, .null, .int 0, .null, .null, .null, .null] := by rw [efs_71, efs_69, efs_67, efs_65, efs_63, efs_61, efs_59, efs_57, efs_55, efs_53, efs_51, efs_49, el_47]; rfl
  clear efs_49 efs_51 efs_53 efs_55 efs_57 efs_59 efs_61 efs_63 efs_65 efs_67 efs_69 efs_71 el_47
  have hP_274 := hP_272.sub (ws' := [(h0, .inr (12, fs_71)), (q1, .inl (cI, 4000, (.inl (fun _ => 0)))), (q3, .inl (cI, 6, (.inl (fun _ => 0)))), (q5, .inl (cI, 49152, (.inl (fun _ => 0)))), (q7, .inl (cZ, 768, (.inl (fun _ => 0))))]) [0, 1, 2, 3, 4] rfl
  clear hP_272
  have hD_275 := hD_273.sub (ws' := [(h0, .inr (12, fs_71)), (q1, .inl (cI, 4000, (.inl (fun _ => 0)))), (q3, .inl (cI, 6, (.inl (fun _ => 0)))), (q5, .inl (cI, 49152, (.inl (fun _ => 0)))), (q7, .inl (cZ, 768, (.inl (fun _ => 0))))]) [0, 1, 2, 3, 4] (by decide) rfl
  clear hD_273
  refine lv_aload_n hx hb dX12_init_298 rfl (lv_at hl 0 rfl) ?_
  refine lv_ldc (v := 98304) hx hb hown (hts (.constant RX12 122 (98304)) (List.mem_of_getElem? (i := 44) rfl)) dX12_init_299 ?_
  refine nw_arr (atype := .int) (N' := 98304) (a0 := (98304, (.inl (fun _ => 0)))) hx hb (hts (.arrayClass .int) (List.mem_of_getElem? (i := 4) rfl)) rfl hK 0 (cI := cI) rfl hP_274 hD_275 hS_271 hA (fun _ => rfl) (by decide) (by decide) (by decide) (Nat.le_of_ble_eq_true rfl) (Nat.le_of_ble_eq_true rfl) dX12_init_301 (fun q72 H_276 hP_276 hD_276 hS_276 => ?_)
  clear hP_274 hD_275 hS_271
  have hP_277 : va_P (dC, dI) vwCl [(h0, .inr (12, fs_71)), (q1, .inl (cI, 4000, (.inl (fun _ => 0)))), (q3, .inl (cI, 6, (.inl (fun _ => 0)))), (q5, .inl (cI, 49152, (.inl (fun _ => 0)))), (q7, .inl (cZ, 768, (.inl (fun _ => 0)))), (q72, .inl (cI, 98304, (.inl (fun _ => 0))))] H_276 := hP_276
  clear hP_276
  have hD_278 : va_D A [(h0, .inr (12, fs_71)), (q1, .inl (cI, 4000, (.inl (fun _ => 0)))), (q3, .inl (cI, 6, (.inl (fun _ => 0)))), (q5, .inl (cI, 49152, (.inl (fun _ => 0)))), (q7, .inl (cZ, 768, (.inl (fun _ => 0)))), (q72, .inl (cI, 98304, (.inl (fun _ => 0))))] := hD_276
  clear hD_276
  refine W.widen (k := 36) (n := 393622) (by decide) (by decide) ?_
  refine va_putF (D := (dC, dI)) (ci := 12) (v := .ref q72) (ty := .array (.int)) (C := RX12) (T := TX12) (N := 172) hx hb hts inq_X12_init_c12 tyX12 tyX12_ok nmX12 hown hK hP_277 hD_278 hS_276 0 rfl rfl 65 (by decide) (hts (.fieldLink RX12 123 "DiskEvidenceModel" "treeBytes" "[I") (List.mem_of_getElem? (i := 45) rfl)) (fun _ h9 => h9) rfl hin rfl (by decide +kernel) rfl rfl (by rw [hfl_71]; decide) dX12_init_303 (fun H_279 locs_279 hP_279 hD_279 hS_279 => ?_)
  clear hP_277 hD_278 hS_276
  have hP_280 : va_P (dC, dI) vwCl [(h0, .inr (12, (fs_71.set 65 (.ref q72)))), (q1, .inl (cI, 4000, (.inl (fun _ => 0)))), (q3, .inl (cI, 6, (.inl (fun _ => 0)))), (q5, .inl (cI, 49152, (.inl (fun _ => 0)))), (q7, .inl (cZ, 768, (.inl (fun _ => 0)))), (q72, .inl (cI, 98304, (.inl (fun _ => 0))))] H_279 := hP_279
  clear hP_279
  have hD_281 : va_D A [(h0, .inr (12, (fs_71.set 65 (.ref q72)))), (q1, .inl (cI, 4000, (.inl (fun _ => 0)))), (q3, .inl (cI, 6, (.inl (fun _ => 0)))), (q5, .inl (cI, 49152, (.inl (fun _ => 0)))), (q7, .inl (cZ, 768, (.inl (fun _ => 0)))), (q72, .inl (cI, 98304, (.inl (fun _ => 0))))] := hD_279
  clear hD_279
  obtain ⟨fs_73, efs_73⟩ : ∃ y, y = (fs_71.set 65 (.ref q72)) := ⟨_, rfl⟩
  rw [← efs_73] at hP_280 hD_281
  have hfl_73 : fs_73.length = 172 := by rw [efs_73, List.length_set]; exact hfl_71
  clear hfl_71
  have hP_282 := hP_280.sub (ws' := [(h0, .inr (12, fs_73)), (q1, .inl (cI, 4000, (.inl (fun _ => 0)))), (q3, .inl (cI, 6, (.inl (fun _ => 0)))), (q5, .inl (cI, 49152, (.inl (fun _ => 0)))), (q7, .inl (cZ, 768, (.inl (fun _ => 0))))]) [0, 1, 2, 3, 4] rfl
  clear hP_280
  have hD_283 := hD_281.sub (ws' := [(h0, .inr (12, fs_73)), (q1, .inl (cI, 4000, (.inl (fun _ => 0)))), (q3, .inl (cI, 6, (.inl (fun _ => 0)))), (q5, .inl (cI, 49152, (.inl (fun _ => 0)))), (q7, .inl (cZ, 768, (.inl (fun _ => 0))))]) [0, 1, 2, 3, 4] (by decide) rfl
  clear hD_281
  refine lv_aload_n hx hb dX12_init_306 rfl (lv_at hl 0 rfl) ?_
  refine lv_sipush (v := 1536) hx hb dX12_init_307 (by decide) ?_
  refine nw_arr (atype := .int) (N' := 1536) (a0 := (1536, (.inl (fun _ => 0)))) hx hb (hts (.arrayClass .int) (List.mem_of_getElem? (i := 4) rfl)) rfl hK 0 (cI := cI) rfl hP_282 hD_283 hS_279 hA (fun _ => rfl) (by decide) (by decide) (by decide) (Nat.le_of_ble_eq_true rfl) (Nat.le_of_ble_eq_true rfl) dX12_init_310 (fun q74 H_284 hP_284 hD_284 hS_284 => ?_)
  clear hP_282 hD_283 hS_279
  have hP_285 : va_P (dC, dI) vwCl [(h0, .inr (12, fs_73)), (q1, .inl (cI, 4000, (.inl (fun _ => 0)))), (q3, .inl (cI, 6, (.inl (fun _ => 0)))), (q5, .inl (cI, 49152, (.inl (fun _ => 0)))), (q7, .inl (cZ, 768, (.inl (fun _ => 0)))), (q74, .inl (cI, 1536, (.inl (fun _ => 0))))] H_284 := hP_284
  clear hP_284
  have hD_286 : va_D A [(h0, .inr (12, fs_73)), (q1, .inl (cI, 4000, (.inl (fun _ => 0)))), (q3, .inl (cI, 6, (.inl (fun _ => 0)))), (q5, .inl (cI, 49152, (.inl (fun _ => 0)))), (q7, .inl (cZ, 768, (.inl (fun _ => 0)))), (q74, .inl (cI, 1536, (.inl (fun _ => 0))))] := hD_284
  clear hD_284
  refine W.widen (k := 37) (n := 395158) (by decide) (by decide) ?_
  refine va_putF (D := (dC, dI)) (ci := 12) (v := .ref q74) (ty := .array (.int)) (C := RX12) (T := TX12) (N := 172) hx hb hts inq_X12_init_c12 tyX12 tyX12_ok nmX12 hown hK hP_285 hD_286 hS_284 0 rfl rfl 66 (by decide) (hts (.fieldLink RX12 126 "DiskEvidenceModel" "ownerOf" "[I") (List.mem_of_getElem? (i := 46) rfl)) (fun _ h9 => h9) rfl hin rfl (by decide +kernel) rfl rfl (by rw [hfl_73]; decide) dX12_init_312 (fun H_287 locs_287 hP_287 hD_287 hS_287 => ?_)
  clear hP_285 hD_286 hS_284
  have hP_288 : va_P (dC, dI) vwCl [(h0, .inr (12, (fs_73.set 66 (.ref q74)))), (q1, .inl (cI, 4000, (.inl (fun _ => 0)))), (q3, .inl (cI, 6, (.inl (fun _ => 0)))), (q5, .inl (cI, 49152, (.inl (fun _ => 0)))), (q7, .inl (cZ, 768, (.inl (fun _ => 0)))), (q74, .inl (cI, 1536, (.inl (fun _ => 0))))] H_287 := hP_287
  clear hP_287
  have hD_289 : va_D A [(h0, .inr (12, (fs_73.set 66 (.ref q74)))), (q1, .inl (cI, 4000, (.inl (fun _ => 0)))), (q3, .inl (cI, 6, (.inl (fun _ => 0)))), (q5, .inl (cI, 49152, (.inl (fun _ => 0)))), (q7, .inl (cZ, 768, (.inl (fun _ => 0)))), (q74, .inl (cI, 1536, (.inl (fun _ => 0))))] := hD_287
  clear hD_287
  obtain ⟨fs_75, efs_75⟩ : ∃ y, y = (fs_73.set 66 (.ref q74)) := ⟨_, rfl⟩
  rw [← efs_75] at hP_288 hD_289
  have hfl_75 : fs_75.length = 172 := by rw [efs_75, List.length_set]; exact hfl_73
  clear hfl_73
  have hP_290 := hP_288.sub (ws' := [(h0, .inr (12, fs_75)), (q1, .inl (cI, 4000, (.inl (fun _ => 0)))), (q3, .inl (cI, 6, (.inl (fun _ => 0)))), (q5, .inl (cI, 49152, (.inl (fun _ => 0)))), (q7, .inl (cZ, 768, (.inl (fun _ => 0))))]) [0, 1, 2, 3, 4] rfl
  clear hP_288
  have hD_291 := hD_289.sub (ws' := [(h0, .inr (12, fs_75)), (q1, .inl (cI, 4000, (.inl (fun _ => 0)))), (q3, .inl (cI, 6, (.inl (fun _ => 0)))), (q5, .inl (cI, 49152, (.inl (fun _ => 0)))), (q7, .inl (cZ, 768, (.inl (fun _ => 0))))]) [0, 1, 2, 3, 4] (by decide) rfl
  clear hD_289
  refine lv_aload_n hx hb dX12_init_315 rfl (lv_at hl 0 rfl) ?_
  refine lv_bipush (v := 6) hx hb dX12_init_316 (by decide) ?_
  refine nw_arr (atype := .int) (N' := 6) (a0 := (6, (.inl (fun _ => 0)))) hx hb (hts (.arrayClass .int) (List.mem_of_getElem? (i := 4) rfl)) rfl hK 0 (cI := cI) rfl hP_290 hD_291 hS_287 hA (fun _ => rfl) (by decide) (by decide) (by decide) (Nat.le_of_ble_eq_true rfl) (Nat.le_of_ble_eq_true rfl) dX12_init_318 (fun q76 H_292 hP_292 hD_292 hS_292 => ?_)
  clear hP_290 hD_291 hS_287
  have hP_293 : va_P (dC, dI) vwCl [(h0, .inr (12, fs_75)), (q1, .inl (cI, 4000, (.inl (fun _ => 0)))), (q3, .inl (cI, 6, (.inl (fun _ => 0)))), (q5, .inl (cI, 49152, (.inl (fun _ => 0)))), (q7, .inl (cZ, 768, (.inl (fun _ => 0)))), (q76, .inl (cI, 6, (.inl (fun _ => 0))))] H_292 := hP_292
  clear hP_292
  have hD_294 : va_D A [(h0, .inr (12, fs_75)), (q1, .inl (cI, 4000, (.inl (fun _ => 0)))), (q3, .inl (cI, 6, (.inl (fun _ => 0)))), (q5, .inl (cI, 49152, (.inl (fun _ => 0)))), (q7, .inl (cZ, 768, (.inl (fun _ => 0)))), (q76, .inl (cI, 6, (.inl (fun _ => 0))))] := hD_292
  clear hD_292
  refine W.widen (k := 38) (n := 395164) (by decide) (by decide) ?_
  refine va_putF (D := (dC, dI)) (ci := 12) (v := .ref q76) (ty := .array (.int)) (C := RX12) (T := TX12) (N := 172) hx hb hts inq_X12_init_c12 tyX12 tyX12_ok nmX12 hown hK hP_293 hD_294 hS_292 0 rfl rfl 67 (by decide) (hts (.fieldLink RX12 129 "DiskEvidenceModel" "living" "[I") (List.mem_of_getElem? (i := 47) rfl)) (fun _ h9 => h9) rfl hin rfl (by decide +kernel) rfl rfl (by rw [hfl_75]; decide) dX12_init_320 (fun H_295 locs_295 hP_295 hD_295 hS_295 => ?_)
  clear hP_293 hD_294 hS_292
  have hP_296 : va_P (dC, dI) vwCl [(h0, .inr (12, (fs_75.set 67 (.ref q76)))), (q1, .inl (cI, 4000, (.inl (fun _ => 0)))), (q3, .inl (cI, 6, (.inl (fun _ => 0)))), (q5, .inl (cI, 49152, (.inl (fun _ => 0)))), (q7, .inl (cZ, 768, (.inl (fun _ => 0)))), (q76, .inl (cI, 6, (.inl (fun _ => 0))))] H_295 := hP_295
  clear hP_295
  have hD_297 : va_D A [(h0, .inr (12, (fs_75.set 67 (.ref q76)))), (q1, .inl (cI, 4000, (.inl (fun _ => 0)))), (q3, .inl (cI, 6, (.inl (fun _ => 0)))), (q5, .inl (cI, 49152, (.inl (fun _ => 0)))), (q7, .inl (cZ, 768, (.inl (fun _ => 0)))), (q76, .inl (cI, 6, (.inl (fun _ => 0))))] := hD_295
  clear hD_295
  obtain ⟨fs_77, efs_77⟩ : ∃ y, y = (fs_75.set 67 (.ref q76)) := ⟨_, rfl⟩
  rw [← efs_77] at hP_296 hD_297
  have hfl_77 : fs_77.length = 172 := by rw [efs_77, List.length_set]; exact hfl_75
  clear hfl_75
  have hP_298 := hP_296.sub (ws' := [(h0, .inr (12, fs_77)), (q1, .inl (cI, 4000, (.inl (fun _ => 0)))), (q3, .inl (cI, 6, (.inl (fun _ => 0)))), (q5, .inl (cI, 49152, (.inl (fun _ => 0)))), (q7, .inl (cZ, 768, (.inl (fun _ => 0))))]) [0, 1, 2, 3, 4] rfl
  clear hP_296
  have hD_299 := hD_297.sub (ws' := [(h0, .inr (12, fs_77)), (q1, .inl (cI, 4000, (.inl (fun _ => 0)))), (q3, .inl (cI, 6, (.inl (fun _ => 0)))), (q5, .inl (cI, 49152, (.inl (fun _ => 0)))), (q7, .inl (cZ, 768, (.inl (fun _ => 0))))]) [0, 1, 2, 3, 4] (by decide) rfl
  clear hD_297
  refine lv_aload_n hx hb dX12_init_323 rfl (lv_at hl 0 rfl) ?_
  refine lv_bipush (v := 6) hx hb dX12_init_324 (by decide) ?_
  refine nw_arr (atype := .int) (N' := 6) (a0 := (6, (.inl (fun _ => 0)))) hx hb (hts (.arrayClass .int) (List.mem_of_getElem? (i := 4) rfl)) rfl hK 0 (cI := cI) rfl hP_298 hD_299 hS_295 hA (fun _ => rfl) (by decide) (by decide) (by decide) (Nat.le_of_ble_eq_true rfl) (Nat.le_of_ble_eq_true rfl) dX12_init_326 (fun q78 H_300 hP_300 hD_300 hS_300 => ?_)
  clear hP_298 hD_299 hS_295
  have hP_301 : va_P (dC, dI) vwCl [(h0, .inr (12, fs_77)), (q1, .inl (cI, 4000, (.inl (fun _ => 0)))), (q3, .inl (cI, 6, (.inl (fun _ => 0)))), (q5, .inl (cI, 49152, (.inl (fun _ => 0)))), (q7, .inl (cZ, 768, (.inl (fun _ => 0)))), (q78, .inl (cI, 6, (.inl (fun _ => 0))))] H_300 := hP_300
  clear hP_300
  have hD_302 : va_D A [(h0, .inr (12, fs_77)), (q1, .inl (cI, 4000, (.inl (fun _ => 0)))), (q3, .inl (cI, 6, (.inl (fun _ => 0)))), (q5, .inl (cI, 49152, (.inl (fun _ => 0)))), (q7, .inl (cZ, 768, (.inl (fun _ => 0)))), (q78, .inl (cI, 6, (.inl (fun _ => 0))))] := hD_300
  clear hD_300
  refine W.widen (k := 39) (n := 395170) (by decide) (by decide) ?_
  refine va_putF (D := (dC, dI)) (ci := 12) (v := .ref q78) (ty := .array (.int)) (C := RX12) (T := TX12) (N := 172) hx hb hts inq_X12_init_c12 tyX12 tyX12_ok nmX12 hown hK hP_301 hD_302 hS_300 0 rfl rfl 68 (by decide) (hts (.fieldLink RX12 132 "DiskEvidenceModel" "lost" "[I") (List.mem_of_getElem? (i := 48) rfl)) (fun _ h9 => h9) rfl hin rfl (by decide +kernel) rfl rfl (by rw [hfl_77]; decide) dX12_init_328 (fun H_303 locs_303 hP_303 hD_303 hS_303 => ?_)
  clear hP_301 hD_302 hS_300
  have hP_304 : va_P (dC, dI) vwCl [(h0, .inr (12, (fs_77.set 68 (.ref q78)))), (q1, .inl (cI, 4000, (.inl (fun _ => 0)))), (q3, .inl (cI, 6, (.inl (fun _ => 0)))), (q5, .inl (cI, 49152, (.inl (fun _ => 0)))), (q7, .inl (cZ, 768, (.inl (fun _ => 0)))), (q78, .inl (cI, 6, (.inl (fun _ => 0))))] H_303 := hP_303
  clear hP_303
  have hD_305 : va_D A [(h0, .inr (12, (fs_77.set 68 (.ref q78)))), (q1, .inl (cI, 4000, (.inl (fun _ => 0)))), (q3, .inl (cI, 6, (.inl (fun _ => 0)))), (q5, .inl (cI, 49152, (.inl (fun _ => 0)))), (q7, .inl (cZ, 768, (.inl (fun _ => 0)))), (q78, .inl (cI, 6, (.inl (fun _ => 0))))] := hD_303
  clear hD_303
  obtain ⟨fs_79, efs_79⟩ : ∃ y, y = (fs_77.set 68 (.ref q78)) := ⟨_, rfl⟩
  rw [← efs_79] at hP_304 hD_305
  have hfl_79 : fs_79.length = 172 := by rw [efs_79, List.length_set]; exact hfl_77
  clear hfl_77
  have hP_306 := hP_304.sub (ws' := [(h0, .inr (12, fs_79)), (q1, .inl (cI, 4000, (.inl (fun _ => 0)))), (q3, .inl (cI, 6, (.inl (fun _ => 0)))), (q5, .inl (cI, 49152, (.inl (fun _ => 0)))), (q7, .inl (cZ, 768, (.inl (fun _ => 0))))]) [0, 1, 2, 3, 4] rfl
  clear hP_304
  have hD_307 := hD_305.sub (ws' := [(h0, .inr (12, fs_79)), (q1, .inl (cI, 4000, (.inl (fun _ => 0)))), (q3, .inl (cI, 6, (.inl (fun _ => 0)))), (q5, .inl (cI, 49152, (.inl (fun _ => 0)))), (q7, .inl (cZ, 768, (.inl (fun _ => 0))))]) [0, 1, 2, 3, 4] (by decide) rfl
  clear hD_305
  refine lv_aload_n hx hb dX12_init_331 rfl (lv_at hl 0 rfl) ?_
  refine lv_bipush (v := 6) hx hb dX12_init_332 (by decide) ?_
  refine nw_arr (atype := .int) (N' := 6) (a0 := (6, (.inl (fun _ => 0)))) hx hb (hts (.arrayClass .int) (List.mem_of_getElem? (i := 4) rfl)) rfl hK 0 (cI := cI) rfl hP_306 hD_307 hS_303 hA (fun _ => rfl) (by decide) (by decide) (by decide) (Nat.le_of_ble_eq_true rfl) (Nat.le_of_ble_eq_true rfl) dX12_init_334 (fun q80 H_308 hP_308 hD_308 hS_308 => ?_)
  clear hP_306 hD_307 hS_303
  have hP_309 : va_P (dC, dI) vwCl [(h0, .inr (12, fs_79)), (q1, .inl (cI, 4000, (.inl (fun _ => 0)))), (q3, .inl (cI, 6, (.inl (fun _ => 0)))), (q5, .inl (cI, 49152, (.inl (fun _ => 0)))), (q7, .inl (cZ, 768, (.inl (fun _ => 0)))), (q80, .inl (cI, 6, (.inl (fun _ => 0))))] H_308 := hP_308
  clear hP_308
  have hD_310 : va_D A [(h0, .inr (12, fs_79)), (q1, .inl (cI, 4000, (.inl (fun _ => 0)))), (q3, .inl (cI, 6, (.inl (fun _ => 0)))), (q5, .inl (cI, 49152, (.inl (fun _ => 0)))), (q7, .inl (cZ, 768, (.inl (fun _ => 0)))), (q80, .inl (cI, 6, (.inl (fun _ => 0))))] := hD_308
  clear hD_308
  refine W.widen (k := 40) (n := 395176) (by decide) (by decide) ?_
  refine va_putF (D := (dC, dI)) (ci := 12) (v := .ref q80) (ty := .array (.int)) (C := RX12) (T := TX12) (N := 172) hx hb hts inq_X12_init_c12 tyX12 tyX12_ok nmX12 hown hK hP_309 hD_310 hS_308 0 rfl rfl 69 (by decide) (hts (.fieldLink RX12 135 "DiskEvidenceModel" "cut" "[I") (List.mem_of_getElem? (i := 49) rfl)) (fun _ h9 => h9) rfl hin rfl (by decide +kernel) rfl rfl (by rw [hfl_79]; decide) dX12_init_336 (fun H_311 locs_311 hP_311 hD_311 hS_311 => ?_)
  clear hP_309 hD_310 hS_308
  have hP_312 : va_P (dC, dI) vwCl [(h0, .inr (12, (fs_79.set 69 (.ref q80)))), (q1, .inl (cI, 4000, (.inl (fun _ => 0)))), (q3, .inl (cI, 6, (.inl (fun _ => 0)))), (q5, .inl (cI, 49152, (.inl (fun _ => 0)))), (q7, .inl (cZ, 768, (.inl (fun _ => 0)))), (q80, .inl (cI, 6, (.inl (fun _ => 0))))] H_311 := hP_311
  clear hP_311
  have hD_313 : va_D A [(h0, .inr (12, (fs_79.set 69 (.ref q80)))), (q1, .inl (cI, 4000, (.inl (fun _ => 0)))), (q3, .inl (cI, 6, (.inl (fun _ => 0)))), (q5, .inl (cI, 49152, (.inl (fun _ => 0)))), (q7, .inl (cZ, 768, (.inl (fun _ => 0)))), (q80, .inl (cI, 6, (.inl (fun _ => 0))))] := hD_311
  clear hD_311
  obtain ⟨fs_81, efs_81⟩ : ∃ y, y = (fs_79.set 69 (.ref q80)) := ⟨_, rfl⟩
  rw [← efs_81] at hP_312 hD_313
  have hfl_81 : fs_81.length = 172 := by rw [efs_81, List.length_set]; exact hfl_79
  clear hfl_79
  have hP_314 := hP_312.sub (ws' := [(h0, .inr (12, fs_81)), (q1, .inl (cI, 4000, (.inl (fun _ => 0)))), (q3, .inl (cI, 6, (.inl (fun _ => 0)))), (q5, .inl (cI, 49152, (.inl (fun _ => 0)))), (q7, .inl (cZ, 768, (.inl (fun _ => 0))))]) [0, 1, 2, 3, 4] rfl
  clear hP_312
  have hD_315 := hD_313.sub (ws' := [(h0, .inr (12, fs_81)), (q1, .inl (cI, 4000, (.inl (fun _ => 0)))), (q3, .inl (cI, 6, (.inl (fun _ => 0)))), (q5, .inl (cI, 49152, (.inl (fun _ => 0)))), (q7, .inl (cZ, 768, (.inl (fun _ => 0))))]) [0, 1, 2, 3, 4] (by decide) rfl
  clear hD_313
  refine lv_aload_n hx hb dX12_init_339 rfl (lv_at hl 0 rfl) ?_
  refine lv_bipush (v := 6) hx hb dX12_init_340 (by decide) ?_
  refine nw_arr (atype := .int) (N' := 6) (a0 := (6, (.inl (fun _ => 0)))) hx hb (hts (.arrayClass .int) (List.mem_of_getElem? (i := 4) rfl)) rfl hK 0 (cI := cI) rfl hP_314 hD_315 hS_311 hA (fun _ => rfl) (by decide) (by decide) (by decide) (Nat.le_of_ble_eq_true rfl) (Nat.le_of_ble_eq_true rfl) dX12_init_342 (fun q82 H_316 hP_316 hD_316 hS_316 => ?_)
  clear hP_314 hD_315 hS_311
  have hP_317 : va_P (dC, dI) vwCl [(h0, .inr (12, fs_81)), (q1, .inl (cI, 4000, (.inl (fun _ => 0)))), (q3, .inl (cI, 6, (.inl (fun _ => 0)))), (q5, .inl (cI, 49152, (.inl (fun _ => 0)))), (q7, .inl (cZ, 768, (.inl (fun _ => 0)))), (q82, .inl (cI, 6, (.inl (fun _ => 0))))] H_316 := hP_316
  clear hP_316
  have hD_318 : va_D A [(h0, .inr (12, fs_81)), (q1, .inl (cI, 4000, (.inl (fun _ => 0)))), (q3, .inl (cI, 6, (.inl (fun _ => 0)))), (q5, .inl (cI, 49152, (.inl (fun _ => 0)))), (q7, .inl (cZ, 768, (.inl (fun _ => 0)))), (q82, .inl (cI, 6, (.inl (fun _ => 0))))] := hD_316
  clear hD_316
  refine W.widen (k := 41) (n := 395182) (by decide) (by decide) ?_
  refine va_putF (D := (dC, dI)) (ci := 12) (v := .ref q82) (ty := .array (.int)) (C := RX12) (T := TX12) (N := 172) hx hb hts inq_X12_init_c12 tyX12 tyX12_ok nmX12 hown hK hP_317 hD_318 hS_316 0 rfl rfl 70 (by decide) (hts (.fieldLink RX12 138 "DiskEvidenceModel" "inside" "[I") (List.mem_of_getElem? (i := 50) rfl)) (fun _ h9 => h9) rfl hin rfl (by decide +kernel) rfl rfl (by rw [hfl_81]; decide) dX12_init_344 (fun H_319 locs_319 hP_319 hD_319 hS_319 => ?_)
  clear hP_317 hD_318 hS_316
  have hP_320 : va_P (dC, dI) vwCl [(h0, .inr (12, (fs_81.set 70 (.ref q82)))), (q1, .inl (cI, 4000, (.inl (fun _ => 0)))), (q3, .inl (cI, 6, (.inl (fun _ => 0)))), (q5, .inl (cI, 49152, (.inl (fun _ => 0)))), (q7, .inl (cZ, 768, (.inl (fun _ => 0)))), (q82, .inl (cI, 6, (.inl (fun _ => 0))))] H_319 := hP_319
  clear hP_319
  have hD_321 : va_D A [(h0, .inr (12, (fs_81.set 70 (.ref q82)))), (q1, .inl (cI, 4000, (.inl (fun _ => 0)))), (q3, .inl (cI, 6, (.inl (fun _ => 0)))), (q5, .inl (cI, 49152, (.inl (fun _ => 0)))), (q7, .inl (cZ, 768, (.inl (fun _ => 0)))), (q82, .inl (cI, 6, (.inl (fun _ => 0))))] := hD_319
  clear hD_319
  obtain ⟨fs_83, efs_83⟩ : ∃ y, y = (fs_81.set 70 (.ref q82)) := ⟨_, rfl⟩
  rw [← efs_83] at hP_320 hD_321
  have hfl_83 : fs_83.length = 172 := by rw [efs_83, List.length_set]; exact hfl_81
  clear hfl_81
  have hP_322 := hP_320.sub (ws' := [(h0, .inr (12, fs_83)), (q1, .inl (cI, 4000, (.inl (fun _ => 0)))), (q3, .inl (cI, 6, (.inl (fun _ => 0)))), (q5, .inl (cI, 49152, (.inl (fun _ => 0)))), (q7, .inl (cZ, 768, (.inl (fun _ => 0))))]) [0, 1, 2, 3, 4] rfl
  clear hP_320
  have hD_323 := hD_321.sub (ws' := [(h0, .inr (12, fs_83)), (q1, .inl (cI, 4000, (.inl (fun _ => 0)))), (q3, .inl (cI, 6, (.inl (fun _ => 0)))), (q5, .inl (cI, 49152, (.inl (fun _ => 0)))), (q7, .inl (cZ, 768, (.inl (fun _ => 0))))]) [0, 1, 2, 3, 4] (by decide) rfl
  clear hD_321
  refine lv_aload_n hx hb dX12_init_347 rfl (lv_at hl 0 rfl) ?_
  refine lv_bipush (v := 6) hx hb dX12_init_348 (by decide) ?_
  refine nw_arr (atype := .int) (N' := 6) (a0 := (6, (.inl (fun _ => 0)))) hx hb (hts (.arrayClass .int) (List.mem_of_getElem? (i := 4) rfl)) rfl hK 0 (cI := cI) rfl hP_322 hD_323 hS_319 hA (fun _ => rfl) (by decide) (by decide) (by decide) (Nat.le_of_ble_eq_true rfl) (Nat.le_of_ble_eq_true rfl) dX12_init_350 (fun q84 H_324 hP_324 hD_324 hS_324 => ?_)
  clear hP_322 hD_323 hS_319
  have hP_325 : va_P (dC, dI) vwCl [(h0, .inr (12, fs_83)), (q1, .inl (cI, 4000, (.inl (fun _ => 0)))), (q3, .inl (cI, 6, (.inl (fun _ => 0)))), (q5, .inl (cI, 49152, (.inl (fun _ => 0)))), (q7, .inl (cZ, 768, (.inl (fun _ => 0)))), (q84, .inl (cI, 6, (.inl (fun _ => 0))))] H_324 := hP_324
  clear hP_324
  have hD_326 : va_D A [(h0, .inr (12, fs_83)), (q1, .inl (cI, 4000, (.inl (fun _ => 0)))), (q3, .inl (cI, 6, (.inl (fun _ => 0)))), (q5, .inl (cI, 49152, (.inl (fun _ => 0)))), (q7, .inl (cZ, 768, (.inl (fun _ => 0)))), (q84, .inl (cI, 6, (.inl (fun _ => 0))))] := hD_324
  clear hD_324
  refine W.widen (k := 42) (n := 395188) (by decide) (by decide) ?_
  refine va_putF (D := (dC, dI)) (ci := 12) (v := .ref q84) (ty := .array (.int)) (C := RX12) (T := TX12) (N := 172) hx hb hts inq_X12_init_c12 tyX12 tyX12_ok nmX12 hown hK hP_325 hD_326 hS_324 0 rfl rfl 71 (by decide) (hts (.fieldLink RX12 141 "DiskEvidenceModel" "faults" "[I") (List.mem_of_getElem? (i := 51) rfl)) (fun _ h9 => h9) rfl hin rfl (by decide +kernel) rfl rfl (by rw [hfl_83]; decide) dX12_init_352 (fun H_327 locs_327 hP_327 hD_327 hS_327 => ?_)
  clear hP_325 hD_326 hS_324
  have hP_328 : va_P (dC, dI) vwCl [(h0, .inr (12, (fs_83.set 71 (.ref q84)))), (q1, .inl (cI, 4000, (.inl (fun _ => 0)))), (q3, .inl (cI, 6, (.inl (fun _ => 0)))), (q5, .inl (cI, 49152, (.inl (fun _ => 0)))), (q7, .inl (cZ, 768, (.inl (fun _ => 0)))), (q84, .inl (cI, 6, (.inl (fun _ => 0))))] H_327 := hP_327
  clear hP_327
  have hD_329 : va_D A [(h0, .inr (12, (fs_83.set 71 (.ref q84)))), (q1, .inl (cI, 4000, (.inl (fun _ => 0)))), (q3, .inl (cI, 6, (.inl (fun _ => 0)))), (q5, .inl (cI, 49152, (.inl (fun _ => 0)))), (q7, .inl (cZ, 768, (.inl (fun _ => 0)))), (q84, .inl (cI, 6, (.inl (fun _ => 0))))] := hD_327
  clear hD_327
  obtain ⟨fs_85, efs_85⟩ : ∃ y, y = (fs_83.set 71 (.ref q84)) := ⟨_, rfl⟩
  rw [← efs_85] at hP_328 hD_329
  have hfl_85 : fs_85.length = 172 := by rw [efs_85, List.length_set]; exact hfl_83
  clear hfl_83
  have hP_330 := hP_328.sub (ws' := [(h0, .inr (12, fs_85)), (q1, .inl (cI, 4000, (.inl (fun _ => 0)))), (q3, .inl (cI, 6, (.inl (fun _ => 0)))), (q5, .inl (cI, 49152, (.inl (fun _ => 0)))), (q7, .inl (cZ, 768, (.inl (fun _ => 0))))]) [0, 1, 2, 3, 4] rfl
  clear hP_328
  have hD_331 := hD_329.sub (ws' := [(h0, .inr (12, fs_85)), (q1, .inl (cI, 4000, (.inl (fun _ => 0)))), (q3, .inl (cI, 6, (.inl (fun _ => 0)))), (q5, .inl (cI, 49152, (.inl (fun _ => 0)))), (q7, .inl (cZ, 768, (.inl (fun _ => 0))))]) [0, 1, 2, 3, 4] (by decide) rfl
  clear hD_329
  refine lv_aload_n hx hb dX12_init_355 rfl (lv_at hl 0 rfl) ?_
  refine lv_sipush (v := 600) hx hb dX12_init_356 (by decide) ?_
  refine nw_arr (atype := .int) (N' := 600) (a0 := (600, (.inl (fun _ => 0)))) hx hb (hts (.arrayClass .int) (List.mem_of_getElem? (i := 4) rfl)) rfl hK 0 (cI := cI) rfl hP_330 hD_331 hS_327 hA (fun _ => rfl) (by decide) (by decide) (by decide) (Nat.le_of_ble_eq_true rfl) (Nat.le_of_ble_eq_true rfl) dX12_init_359 (fun q86 H_332 hP_332 hD_332 hS_332 => ?_)
  clear hP_330 hD_331 hS_327
  have hP_333 : va_P (dC, dI) vwCl [(h0, .inr (12, fs_85)), (q1, .inl (cI, 4000, (.inl (fun _ => 0)))), (q3, .inl (cI, 6, (.inl (fun _ => 0)))), (q5, .inl (cI, 49152, (.inl (fun _ => 0)))), (q7, .inl (cZ, 768, (.inl (fun _ => 0)))), (q86, .inl (cI, 600, (.inl (fun _ => 0))))] H_332 := hP_332
  clear hP_332
  have hD_334 : va_D A [(h0, .inr (12, fs_85)), (q1, .inl (cI, 4000, (.inl (fun _ => 0)))), (q3, .inl (cI, 6, (.inl (fun _ => 0)))), (q5, .inl (cI, 49152, (.inl (fun _ => 0)))), (q7, .inl (cZ, 768, (.inl (fun _ => 0)))), (q86, .inl (cI, 600, (.inl (fun _ => 0))))] := hD_332
  clear hD_332
  refine W.widen (k := 43) (n := 395788) (by decide) (by decide) ?_
  refine va_putF (D := (dC, dI)) (ci := 12) (v := .ref q86) (ty := .array (.int)) (C := RX12) (T := TX12) (N := 172) hx hb hts inq_X12_init_c12 tyX12 tyX12_ok nmX12 hown hK hP_333 hD_334 hS_332 0 rfl rfl 72 (by decide) (hts (.fieldLink RX12 144 "DiskEvidenceModel" "faultNumber" "[I") (List.mem_of_getElem? (i := 52) rfl)) (fun _ h9 => h9) rfl hin rfl (by decide +kernel) rfl rfl (by rw [hfl_85]; decide) dX12_init_361 (fun H_335 locs_335 hP_335 hD_335 hS_335 => ?_)
  clear hP_333 hD_334 hS_332
  have hP_336 : va_P (dC, dI) vwCl [(h0, .inr (12, (fs_85.set 72 (.ref q86)))), (q1, .inl (cI, 4000, (.inl (fun _ => 0)))), (q3, .inl (cI, 6, (.inl (fun _ => 0)))), (q5, .inl (cI, 49152, (.inl (fun _ => 0)))), (q7, .inl (cZ, 768, (.inl (fun _ => 0)))), (q86, .inl (cI, 600, (.inl (fun _ => 0))))] H_335 := hP_335
  clear hP_335
  have hD_337 : va_D A [(h0, .inr (12, (fs_85.set 72 (.ref q86)))), (q1, .inl (cI, 4000, (.inl (fun _ => 0)))), (q3, .inl (cI, 6, (.inl (fun _ => 0)))), (q5, .inl (cI, 49152, (.inl (fun _ => 0)))), (q7, .inl (cZ, 768, (.inl (fun _ => 0)))), (q86, .inl (cI, 600, (.inl (fun _ => 0))))] := hD_335
  clear hD_335
  obtain ⟨fs_87, efs_87⟩ : ∃ y, y = (fs_85.set 72 (.ref q86)) := ⟨_, rfl⟩
  rw [← efs_87] at hP_336 hD_337
  have hfl_87 : fs_87.length = 172 := by rw [efs_87, List.length_set]; exact hfl_85
  clear hfl_85
  have hP_338 := hP_336.sub (ws' := [(h0, .inr (12, fs_87)), (q1, .inl (cI, 4000, (.inl (fun _ => 0)))), (q3, .inl (cI, 6, (.inl (fun _ => 0)))), (q5, .inl (cI, 49152, (.inl (fun _ => 0)))), (q7, .inl (cZ, 768, (.inl (fun _ => 0))))]) [0, 1, 2, 3, 4] rfl
  clear hP_336
  have hD_339 := hD_337.sub (ws' := [(h0, .inr (12, fs_87)), (q1, .inl (cI, 4000, (.inl (fun _ => 0)))), (q3, .inl (cI, 6, (.inl (fun _ => 0)))), (q5, .inl (cI, 49152, (.inl (fun _ => 0)))), (q7, .inl (cZ, 768, (.inl (fun _ => 0))))]) [0, 1, 2, 3, 4] (by decide) rfl
  clear hD_337
  refine lv_aload_n hx hb dX12_init_364 rfl (lv_at hl 0 rfl) ?_
  refine lv_sipush (v := 600) hx hb dX12_init_365 (by decide) ?_
  refine nw_arr (atype := .int) (N' := 600) (a0 := (600, (.inl (fun _ => 0)))) hx hb (hts (.arrayClass .int) (List.mem_of_getElem? (i := 4) rfl)) rfl hK 0 (cI := cI) rfl hP_338 hD_339 hS_335 hA (fun _ => rfl) (by decide) (by decide) (by decide) (Nat.le_of_ble_eq_true rfl) (Nat.le_of_ble_eq_true rfl) dX12_init_368 (fun q88 H_340 hP_340 hD_340 hS_340 => ?_)
  clear hP_338 hD_339 hS_335
  have hP_341 : va_P (dC, dI) vwCl [(h0, .inr (12, fs_87)), (q1, .inl (cI, 4000, (.inl (fun _ => 0)))), (q3, .inl (cI, 6, (.inl (fun _ => 0)))), (q5, .inl (cI, 49152, (.inl (fun _ => 0)))), (q7, .inl (cZ, 768, (.inl (fun _ => 0)))), (q88, .inl (cI, 600, (.inl (fun _ => 0))))] H_340 := hP_340
  clear hP_340
  have hD_342 : va_D A [(h0, .inr (12, fs_87)), (q1, .inl (cI, 4000, (.inl (fun _ => 0)))), (q3, .inl (cI, 6, (.inl (fun _ => 0)))), (q5, .inl (cI, 49152, (.inl (fun _ => 0)))), (q7, .inl (cZ, 768, (.inl (fun _ => 0)))), (q88, .inl (cI, 600, (.inl (fun _ => 0))))] := hD_340
  clear hD_340
  refine W.widen (k := 44) (n := 396388) (by decide) (by decide) ?_
  refine va_putF (D := (dC, dI)) (ci := 12) (v := .ref q88) (ty := .array (.int)) (C := RX12) (T := TX12) (N := 172) hx hb hts inq_X12_init_c12 tyX12 tyX12_ok nmX12 hown hK hP_341 hD_342 hS_340 0 rfl rfl 73 (by decide) (hts (.fieldLink RX12 147 "DiskEvidenceModel" "faultFile" "[I") (List.mem_of_getElem? (i := 53) rfl)) (fun _ h9 => h9) rfl hin rfl (by decide +kernel) rfl rfl (by rw [hfl_87]; decide) dX12_init_370 (fun H_343 locs_343 hP_343 hD_343 hS_343 => ?_)
  clear hP_341 hD_342 hS_340
  have hP_344 : va_P (dC, dI) vwCl [(h0, .inr (12, (fs_87.set 73 (.ref q88)))), (q1, .inl (cI, 4000, (.inl (fun _ => 0)))), (q3, .inl (cI, 6, (.inl (fun _ => 0)))), (q5, .inl (cI, 49152, (.inl (fun _ => 0)))), (q7, .inl (cZ, 768, (.inl (fun _ => 0)))), (q88, .inl (cI, 600, (.inl (fun _ => 0))))] H_343 := hP_343
  clear hP_343
  have hD_345 : va_D A [(h0, .inr (12, (fs_87.set 73 (.ref q88)))), (q1, .inl (cI, 4000, (.inl (fun _ => 0)))), (q3, .inl (cI, 6, (.inl (fun _ => 0)))), (q5, .inl (cI, 49152, (.inl (fun _ => 0)))), (q7, .inl (cZ, 768, (.inl (fun _ => 0)))), (q88, .inl (cI, 600, (.inl (fun _ => 0))))] := hD_343
  clear hD_343
  obtain ⟨fs_89, efs_89⟩ : ∃ y, y = (fs_87.set 73 (.ref q88)) := ⟨_, rfl⟩
  rw [← efs_89] at hP_344 hD_345
  have hfl_89 : fs_89.length = 172 := by rw [efs_89, List.length_set]; exact hfl_87
  clear hfl_87
  have hP_346 := hP_344.sub (ws' := [(h0, .inr (12, fs_89)), (q1, .inl (cI, 4000, (.inl (fun _ => 0)))), (q3, .inl (cI, 6, (.inl (fun _ => 0)))), (q5, .inl (cI, 49152, (.inl (fun _ => 0)))), (q7, .inl (cZ, 768, (.inl (fun _ => 0))))]) [0, 1, 2, 3, 4] rfl
  clear hP_344
  have hD_347 := hD_345.sub (ws' := [(h0, .inr (12, fs_89)), (q1, .inl (cI, 4000, (.inl (fun _ => 0)))), (q3, .inl (cI, 6, (.inl (fun _ => 0)))), (q5, .inl (cI, 49152, (.inl (fun _ => 0)))), (q7, .inl (cZ, 768, (.inl (fun _ => 0))))]) [0, 1, 2, 3, 4] (by decide) rfl
  clear hD_345
  refine lv_aload_n hx hb dX12_init_373 rfl (lv_at hl 0 rfl) ?_
  refine lv_sipush (v := 600) hx hb dX12_init_374 (by decide) ?_
  refine nw_arr (atype := .int) (N' := 600) (a0 := (600, (.inl (fun _ => 0)))) hx hb (hts (.arrayClass .int) (List.mem_of_getElem? (i := 4) rfl)) rfl hK 0 (cI := cI) rfl hP_346 hD_347 hS_343 hA (fun _ => rfl) (by decide) (by decide) (by decide) (Nat.le_of_ble_eq_true rfl) (Nat.le_of_ble_eq_true rfl) dX12_init_377 (fun q90 H_348 hP_348 hD_348 hS_348 => ?_)
  clear hP_346 hD_347 hS_343
  have hP_349 : va_P (dC, dI) vwCl [(h0, .inr (12, fs_89)), (q1, .inl (cI, 4000, (.inl (fun _ => 0)))), (q3, .inl (cI, 6, (.inl (fun _ => 0)))), (q5, .inl (cI, 49152, (.inl (fun _ => 0)))), (q7, .inl (cZ, 768, (.inl (fun _ => 0)))), (q90, .inl (cI, 600, (.inl (fun _ => 0))))] H_348 := hP_348
  clear hP_348
  have hD_350 : va_D A [(h0, .inr (12, fs_89)), (q1, .inl (cI, 4000, (.inl (fun _ => 0)))), (q3, .inl (cI, 6, (.inl (fun _ => 0)))), (q5, .inl (cI, 49152, (.inl (fun _ => 0)))), (q7, .inl (cZ, 768, (.inl (fun _ => 0)))), (q90, .inl (cI, 600, (.inl (fun _ => 0))))] := hD_348
  clear hD_348
  refine W.widen (k := 45) (n := 396988) (by decide) (by decide) ?_
  refine va_putF (D := (dC, dI)) (ci := 12) (v := .ref q90) (ty := .array (.int)) (C := RX12) (T := TX12) (N := 172) hx hb hts inq_X12_init_c12 tyX12 tyX12_ok nmX12 hown hK hP_349 hD_350 hS_348 0 rfl rfl 74 (by decide) (hts (.fieldLink RX12 150 "DiskEvidenceModel" "faultBlock" "[I") (List.mem_of_getElem? (i := 54) rfl)) (fun _ h9 => h9) rfl hin rfl (by decide +kernel) rfl rfl (by rw [hfl_89]; decide) dX12_init_379 (fun H_351 locs_351 hP_351 hD_351 hS_351 => ?_)
  clear hP_349 hD_350 hS_348
  have hP_352 : va_P (dC, dI) vwCl [(h0, .inr (12, (fs_89.set 74 (.ref q90)))), (q1, .inl (cI, 4000, (.inl (fun _ => 0)))), (q3, .inl (cI, 6, (.inl (fun _ => 0)))), (q5, .inl (cI, 49152, (.inl (fun _ => 0)))), (q7, .inl (cZ, 768, (.inl (fun _ => 0)))), (q90, .inl (cI, 600, (.inl (fun _ => 0))))] H_351 := hP_351
  clear hP_351
  have hD_353 : va_D A [(h0, .inr (12, (fs_89.set 74 (.ref q90)))), (q1, .inl (cI, 4000, (.inl (fun _ => 0)))), (q3, .inl (cI, 6, (.inl (fun _ => 0)))), (q5, .inl (cI, 49152, (.inl (fun _ => 0)))), (q7, .inl (cZ, 768, (.inl (fun _ => 0)))), (q90, .inl (cI, 600, (.inl (fun _ => 0))))] := hD_351
  clear hD_351
  obtain ⟨fs_91, efs_91⟩ : ∃ y, y = (fs_89.set 74 (.ref q90)) := ⟨_, rfl⟩
  rw [← efs_91] at hP_352 hD_353
  have hfl_91 : fs_91.length = 172 := by rw [efs_91, List.length_set]; exact hfl_89
  clear hfl_89
  have hP_354 := hP_352.sub (ws' := [(h0, .inr (12, fs_91)), (q1, .inl (cI, 4000, (.inl (fun _ => 0)))), (q3, .inl (cI, 6, (.inl (fun _ => 0)))), (q5, .inl (cI, 49152, (.inl (fun _ => 0)))), (q7, .inl (cZ, 768, (.inl (fun _ => 0))))]) [0, 1, 2, 3, 4] rfl
  clear hP_352
  have hD_355 := hD_353.sub (ws' := [(h0, .inr (12, fs_91)), (q1, .inl (cI, 4000, (.inl (fun _ => 0)))), (q3, .inl (cI, 6, (.inl (fun _ => 0)))), (q5, .inl (cI, 49152, (.inl (fun _ => 0)))), (q7, .inl (cZ, 768, (.inl (fun _ => 0))))]) [0, 1, 2, 3, 4] (by decide) rfl
  clear hD_353
  refine lv_aload_n hx hb dX12_init_382 rfl (lv_at hl 0 rfl) ?_
  refine lv_sipush (v := 900) hx hb dX12_init_383 (by decide) ?_
  refine nw_arr (atype := .int) (N' := 900) (a0 := (900, (.inl (fun _ => 0)))) hx hb (hts (.arrayClass .int) (List.mem_of_getElem? (i := 4) rfl)) rfl hK 0 (cI := cI) rfl hP_354 hD_355 hS_351 hA (fun _ => rfl) (by decide) (by decide) (by decide) (Nat.le_of_ble_eq_true rfl) (Nat.le_of_ble_eq_true rfl) dX12_init_386 (fun q92 H_356 hP_356 hD_356 hS_356 => ?_)
  clear hP_354 hD_355 hS_351
  have hP_357 : va_P (dC, dI) vwCl [(h0, .inr (12, fs_91)), (q1, .inl (cI, 4000, (.inl (fun _ => 0)))), (q3, .inl (cI, 6, (.inl (fun _ => 0)))), (q5, .inl (cI, 49152, (.inl (fun _ => 0)))), (q7, .inl (cZ, 768, (.inl (fun _ => 0)))), (q92, .inl (cI, 900, (.inl (fun _ => 0))))] H_356 := hP_356
  clear hP_356
  have hD_358 : va_D A [(h0, .inr (12, fs_91)), (q1, .inl (cI, 4000, (.inl (fun _ => 0)))), (q3, .inl (cI, 6, (.inl (fun _ => 0)))), (q5, .inl (cI, 49152, (.inl (fun _ => 0)))), (q7, .inl (cZ, 768, (.inl (fun _ => 0)))), (q92, .inl (cI, 900, (.inl (fun _ => 0))))] := hD_356
  clear hD_356
  refine W.widen (k := 46) (n := 397888) (by decide) (by decide) ?_
  refine va_putF (D := (dC, dI)) (ci := 12) (v := .ref q92) (ty := .array (.int)) (C := RX12) (T := TX12) (N := 172) hx hb hts inq_X12_init_c12 tyX12 tyX12_ok nmX12 hown hK hP_357 hD_358 hS_356 0 rfl rfl 75 (by decide) (hts (.fieldLink RX12 153 "DiskEvidenceModel" "kindOf" "[I") (List.mem_of_getElem? (i := 55) rfl)) (fun _ h9 => h9) rfl hin rfl (by decide +kernel) rfl rfl (by rw [hfl_91]; decide) dX12_init_388 (fun H_359 locs_359 hP_359 hD_359 hS_359 => ?_)
  clear hP_357 hD_358 hS_356
  have hP_360 : va_P (dC, dI) vwCl [(h0, .inr (12, (fs_91.set 75 (.ref q92)))), (q1, .inl (cI, 4000, (.inl (fun _ => 0)))), (q3, .inl (cI, 6, (.inl (fun _ => 0)))), (q5, .inl (cI, 49152, (.inl (fun _ => 0)))), (q7, .inl (cZ, 768, (.inl (fun _ => 0)))), (q92, .inl (cI, 900, (.inl (fun _ => 0))))] H_359 := hP_359
  clear hP_359
  have hD_361 : va_D A [(h0, .inr (12, (fs_91.set 75 (.ref q92)))), (q1, .inl (cI, 4000, (.inl (fun _ => 0)))), (q3, .inl (cI, 6, (.inl (fun _ => 0)))), (q5, .inl (cI, 49152, (.inl (fun _ => 0)))), (q7, .inl (cZ, 768, (.inl (fun _ => 0)))), (q92, .inl (cI, 900, (.inl (fun _ => 0))))] := hD_359
  clear hD_359
  obtain ⟨fs_93, efs_93⟩ : ∃ y, y = (fs_91.set 75 (.ref q92)) := ⟨_, rfl⟩
  rw [← efs_93] at hP_360 hD_361
  have hfl_93 : fs_93.length = 172 := by rw [efs_93, List.length_set]; exact hfl_91
  clear hfl_91
  have hP_362 := hP_360.sub (ws' := [(h0, .inr (12, fs_93)), (q1, .inl (cI, 4000, (.inl (fun _ => 0)))), (q3, .inl (cI, 6, (.inl (fun _ => 0)))), (q5, .inl (cI, 49152, (.inl (fun _ => 0)))), (q7, .inl (cZ, 768, (.inl (fun _ => 0))))]) [0, 1, 2, 3, 4] rfl
  clear hP_360
  have hD_363 := hD_361.sub (ws' := [(h0, .inr (12, fs_93)), (q1, .inl (cI, 4000, (.inl (fun _ => 0)))), (q3, .inl (cI, 6, (.inl (fun _ => 0)))), (q5, .inl (cI, 49152, (.inl (fun _ => 0)))), (q7, .inl (cZ, 768, (.inl (fun _ => 0))))]) [0, 1, 2, 3, 4] (by decide) rfl
  clear hD_361
  refine lv_aload_n hx hb dX12_init_391 rfl (lv_at hl 0 rfl) ?_
  refine lv_sipush (v := 900) hx hb dX12_init_392 (by decide) ?_
  refine nw_arr (atype := .int) (N' := 900) (a0 := (900, (.inl (fun _ => 0)))) hx hb (hts (.arrayClass .int) (List.mem_of_getElem? (i := 4) rfl)) rfl hK 0 (cI := cI) rfl hP_362 hD_363 hS_359 hA (fun _ => rfl) (by decide) (by decide) (by decide) (Nat.le_of_ble_eq_true rfl) (Nat.le_of_ble_eq_true rfl) dX12_init_395 (fun q94 H_364 hP_364 hD_364 hS_364 => ?_)
  clear hP_362 hD_363 hS_359
  have hP_365 : va_P (dC, dI) vwCl [(h0, .inr (12, fs_93)), (q1, .inl (cI, 4000, (.inl (fun _ => 0)))), (q3, .inl (cI, 6, (.inl (fun _ => 0)))), (q5, .inl (cI, 49152, (.inl (fun _ => 0)))), (q7, .inl (cZ, 768, (.inl (fun _ => 0)))), (q94, .inl (cI, 900, (.inl (fun _ => 0))))] H_364 := hP_364
  clear hP_364
  have hD_366 : va_D A [(h0, .inr (12, fs_93)), (q1, .inl (cI, 4000, (.inl (fun _ => 0)))), (q3, .inl (cI, 6, (.inl (fun _ => 0)))), (q5, .inl (cI, 49152, (.inl (fun _ => 0)))), (q7, .inl (cZ, 768, (.inl (fun _ => 0)))), (q94, .inl (cI, 900, (.inl (fun _ => 0))))] := hD_364
  clear hD_364
  refine W.widen (k := 47) (n := 398788) (by decide) (by decide) ?_
  refine va_putF (D := (dC, dI)) (ci := 12) (v := .ref q94) (ty := .array (.int)) (C := RX12) (T := TX12) (N := 172) hx hb hts inq_X12_init_c12 tyX12 tyX12_ok nmX12 hown hK hP_365 hD_366 hS_364 0 rfl rfl 76 (by decide) (hts (.fieldLink RX12 156 "DiskEvidenceModel" "endOf" "[I") (List.mem_of_getElem? (i := 56) rfl)) (fun _ h9 => h9) rfl hin rfl (by decide +kernel) rfl rfl (by rw [hfl_93]; decide) dX12_init_397 (fun H_367 locs_367 hP_367 hD_367 hS_367 => ?_)
  clear hP_365 hD_366 hS_364
  have hP_368 : va_P (dC, dI) vwCl [(h0, .inr (12, (fs_93.set 76 (.ref q94)))), (q1, .inl (cI, 4000, (.inl (fun _ => 0)))), (q3, .inl (cI, 6, (.inl (fun _ => 0)))), (q5, .inl (cI, 49152, (.inl (fun _ => 0)))), (q7, .inl (cZ, 768, (.inl (fun _ => 0)))), (q94, .inl (cI, 900, (.inl (fun _ => 0))))] H_367 := hP_367
  clear hP_367
  have hD_369 : va_D A [(h0, .inr (12, (fs_93.set 76 (.ref q94)))), (q1, .inl (cI, 4000, (.inl (fun _ => 0)))), (q3, .inl (cI, 6, (.inl (fun _ => 0)))), (q5, .inl (cI, 49152, (.inl (fun _ => 0)))), (q7, .inl (cZ, 768, (.inl (fun _ => 0)))), (q94, .inl (cI, 900, (.inl (fun _ => 0))))] := hD_367
  clear hD_367
  obtain ⟨fs_95, efs_95⟩ : ∃ y, y = (fs_93.set 76 (.ref q94)) := ⟨_, rfl⟩
  rw [← efs_95] at hP_368 hD_369
  have hfl_95 : fs_95.length = 172 := by rw [efs_95, List.length_set]; exact hfl_93
  clear hfl_93
  have el_95 : fs_95 = [.int 0, .ref q1, .int 0, .int 0, .ref q3, .ref q5, .ref q7, .int 0, .ref q9, .ref q11, .ref q13, .ref q15, .ref q17, .ref q19, .ref q21, .int 1, .int 0, .ref q24, .ref q26, .int 0, .int 0, .ref q28, .ref q30, .ref q32, .ref q34, .ref q36, .int 0, .ref q38, .ref q40, .int 0, .int 0, .ref q42, .ref q44, .ref q46, .int 0, .ref q48, .ref q50, .ref q52, .ref q54, .int 0, .int 0, .int 0, .int 0, .int 0, .int 0, .int 0, .int 0, .int 0, .int 0, .int 0, .ref q56, .ref q58, .int 0, .int 0, .ref q60, .int 0, .int 0, .int 0, .int 0, .int 0, .ref q62, .ref q64, .ref q66, .ref q68, .ref q70, .ref q72, .ref q74, .ref q76, .ref q78, .ref q80, .ref q82, .ref q84, .ref q86, .ref q88, .ref q90, .ref q92, .ref q94, .null, .null, .null, .null, .null, .null, .null, .null, .null, .null, .null, .null, .null, .null, .int 0, .int 0, .int 0, .null, .null, .null, .int 0, .null, .null, .null, .null, .int 0, .null, .null, .null, .int 0, .int 0, .int 0, .int 0, .int 0, .null, .null, .null, .null, .null, .null, .null, .null, .null, .int 0, .null, .int 0, .null, .int 0, .null, .null, .null, .int 0, .int 0, .null, .null, .null, .null, .null, .int 0, .int 0, .int 0, .null, .int 0, .null, .int 0, .null, .null, .null, .null, .int 0, .int 0, .null, .int 0, .null, .int 0, .null, .null, .null, .null, .null, .int 0, .null, .null, .null, .int 0, .null, .null, .null, .null, .null, .int 0, .null, .null, .null, .null] := by rw [efs_95, efs_93, efs_91, efs_89, efs_87, efs_85, efs_83, efs_81, efs_79, efs_77, efs_75, efs_73, el_71]; rfl
  clear efs_73 efs_75 efs_77 efs_79 efs_81 efs_83 efs_85 efs_87 efs_89 efs_91 efs_93 efs_95 el_71
  have hP_370 := hP_368.sub (ws' := [(h0, .inr (12, fs_95)), (q1, .inl (cI, 4000, (.inl (fun _ => 0)))), (q3, .inl (cI, 6, (.inl (fun _ => 0)))), (q5, .inl (cI, 49152, (.inl (fun _ => 0)))), (q7, .inl (cZ, 768, (.inl (fun _ => 0))))]) [0, 1, 2, 3, 4] rfl
  clear hP_368
  have hD_371 := hD_369.sub (ws' := [(h0, .inr (12, fs_95)), (q1, .inl (cI, 4000, (.inl (fun _ => 0)))), (q3, .inl (cI, 6, (.inl (fun _ => 0)))), (q5, .inl (cI, 49152, (.inl (fun _ => 0)))), (q7, .inl (cZ, 768, (.inl (fun _ => 0))))]) [0, 1, 2, 3, 4] (by decide) rfl
  clear hD_369
  refine lv_aload_n hx hb dX12_init_400 rfl (lv_at hl 0 rfl) ?_
  refine lv_sipush (v := 900) hx hb dX12_init_401 (by decide) ?_
  refine nw_arr (atype := .long) (N' := 900) (a0 := (900, (.inr (.inl (fun _ => 0))))) hx hb (hts (.arrayClass .long) (List.mem_of_getElem? (i := 57) rfl)) rfl hK 3 (cI := cJ) rfl hP_370 hD_371 hS_367 hA (fun _ => rfl) (by decide) (by decide) (by decide) (Nat.le_of_ble_eq_true rfl) (Nat.le_of_ble_eq_true rfl) dX12_init_404 (fun q96 H_372 hP_372 hD_372 hS_372 => ?_)
  clear hP_370 hD_371 hS_367
  have hP_373 : va_P (dC, dI) vwCl [(h0, .inr (12, fs_95)), (q1, .inl (cI, 4000, (.inl (fun _ => 0)))), (q3, .inl (cI, 6, (.inl (fun _ => 0)))), (q5, .inl (cI, 49152, (.inl (fun _ => 0)))), (q7, .inl (cZ, 768, (.inl (fun _ => 0)))), (q96, .inl (cJ, 900, (.inr (.inl (fun _ => 0)))))] H_372 := hP_372
  clear hP_372
  have hD_374 : va_D A [(h0, .inr (12, fs_95)), (q1, .inl (cI, 4000, (.inl (fun _ => 0)))), (q3, .inl (cI, 6, (.inl (fun _ => 0)))), (q5, .inl (cI, 49152, (.inl (fun _ => 0)))), (q7, .inl (cZ, 768, (.inl (fun _ => 0)))), (q96, .inl (cJ, 900, (.inr (.inl (fun _ => 0)))))] := hD_372
  clear hD_372
  refine W.widen (k := 48) (n := 399688) (by decide) (by decide) ?_
  refine va_putF (D := (dC, dI)) (ci := 12) (v := .ref q96) (ty := .array (.long)) (C := RX12) (T := TX12) (N := 172) hx hb hts inq_X12_init_c12 tyX12 tyX12_ok nmX12 hown hK hP_373 hD_374 hS_372 0 rfl rfl 77 (by decide) (hts (.fieldLink RX12 159 "DiskEvidenceModel" "sizeOf" "[J") (List.mem_of_getElem? (i := 58) rfl)) (fun _ h9 => h9) rfl hin rfl (by decide +kernel) rfl rfl (by rw [hfl_95]; decide) dX12_init_406 (fun H_375 locs_375 hP_375 hD_375 hS_375 => ?_)
  clear hP_373 hD_374 hS_372
  have hP_376 : va_P (dC, dI) vwCl [(h0, .inr (12, (fs_95.set 77 (.ref q96)))), (q1, .inl (cI, 4000, (.inl (fun _ => 0)))), (q3, .inl (cI, 6, (.inl (fun _ => 0)))), (q5, .inl (cI, 49152, (.inl (fun _ => 0)))), (q7, .inl (cZ, 768, (.inl (fun _ => 0)))), (q96, .inl (cJ, 900, (.inr (.inl (fun _ => 0)))))] H_375 := hP_375
  clear hP_375
  have hD_377 : va_D A [(h0, .inr (12, (fs_95.set 77 (.ref q96)))), (q1, .inl (cI, 4000, (.inl (fun _ => 0)))), (q3, .inl (cI, 6, (.inl (fun _ => 0)))), (q5, .inl (cI, 49152, (.inl (fun _ => 0)))), (q7, .inl (cZ, 768, (.inl (fun _ => 0)))), (q96, .inl (cJ, 900, (.inr (.inl (fun _ => 0)))))] := hD_375
  clear hD_375
  obtain ⟨fs_97, efs_97⟩ : ∃ y, y = (fs_95.set 77 (.ref q96)) := ⟨_, rfl⟩
  rw [← efs_97] at hP_376 hD_377
  have hfl_97 : fs_97.length = 172 := by rw [efs_97, List.length_set]; exact hfl_95
  clear hfl_95
  have hP_378 := hP_376.sub (ws' := [(h0, .inr (12, fs_97)), (q1, .inl (cI, 4000, (.inl (fun _ => 0)))), (q3, .inl (cI, 6, (.inl (fun _ => 0)))), (q5, .inl (cI, 49152, (.inl (fun _ => 0)))), (q7, .inl (cZ, 768, (.inl (fun _ => 0))))]) [0, 1, 2, 3, 4] rfl
  clear hP_376
  have hD_379 := hD_377.sub (ws' := [(h0, .inr (12, fs_97)), (q1, .inl (cI, 4000, (.inl (fun _ => 0)))), (q3, .inl (cI, 6, (.inl (fun _ => 0)))), (q5, .inl (cI, 49152, (.inl (fun _ => 0)))), (q7, .inl (cZ, 768, (.inl (fun _ => 0))))]) [0, 1, 2, 3, 4] (by decide) rfl
  clear hD_377
  refine lv_aload_n hx hb dX12_init_409 rfl (lv_at hl 0 rfl) ?_
  refine lv_sipush (v := 900) hx hb dX12_init_410 (by decide) ?_
  refine nw_arr (atype := .long) (N' := 900) (a0 := (900, (.inr (.inl (fun _ => 0))))) hx hb (hts (.arrayClass .long) (List.mem_of_getElem? (i := 57) rfl)) rfl hK 3 (cI := cJ) rfl hP_378 hD_379 hS_375 hA (fun _ => rfl) (by decide) (by decide) (by decide) (Nat.le_of_ble_eq_true rfl) (Nat.le_of_ble_eq_true rfl) dX12_init_413 (fun q98 H_380 hP_380 hD_380 hS_380 => ?_)
  clear hP_378 hD_379 hS_375
  have hP_381 : va_P (dC, dI) vwCl [(h0, .inr (12, fs_97)), (q1, .inl (cI, 4000, (.inl (fun _ => 0)))), (q3, .inl (cI, 6, (.inl (fun _ => 0)))), (q5, .inl (cI, 49152, (.inl (fun _ => 0)))), (q7, .inl (cZ, 768, (.inl (fun _ => 0)))), (q98, .inl (cJ, 900, (.inr (.inl (fun _ => 0)))))] H_380 := hP_380
  clear hP_380
  have hD_382 : va_D A [(h0, .inr (12, fs_97)), (q1, .inl (cI, 4000, (.inl (fun _ => 0)))), (q3, .inl (cI, 6, (.inl (fun _ => 0)))), (q5, .inl (cI, 49152, (.inl (fun _ => 0)))), (q7, .inl (cZ, 768, (.inl (fun _ => 0)))), (q98, .inl (cJ, 900, (.inr (.inl (fun _ => 0)))))] := hD_380
  clear hD_380
  refine W.widen (k := 49) (n := 400588) (by decide) (by decide) ?_
  refine va_putF (D := (dC, dI)) (ci := 12) (v := .ref q98) (ty := .array (.long)) (C := RX12) (T := TX12) (N := 172) hx hb hts inq_X12_init_c12 tyX12 tyX12_ok nmX12 hown hK hP_381 hD_382 hS_380 0 rfl rfl 78 (by decide) (hts (.fieldLink RX12 163 "DiskEvidenceModel" "madeOf" "[J") (List.mem_of_getElem? (i := 59) rfl)) (fun _ h9 => h9) rfl hin rfl (by decide +kernel) rfl rfl (by rw [hfl_97]; decide) dX12_init_415 (fun H_383 locs_383 hP_383 hD_383 hS_383 => ?_)
  clear hP_381 hD_382 hS_380
  have hP_384 : va_P (dC, dI) vwCl [(h0, .inr (12, (fs_97.set 78 (.ref q98)))), (q1, .inl (cI, 4000, (.inl (fun _ => 0)))), (q3, .inl (cI, 6, (.inl (fun _ => 0)))), (q5, .inl (cI, 49152, (.inl (fun _ => 0)))), (q7, .inl (cZ, 768, (.inl (fun _ => 0)))), (q98, .inl (cJ, 900, (.inr (.inl (fun _ => 0)))))] H_383 := hP_383
  clear hP_383
  have hD_385 : va_D A [(h0, .inr (12, (fs_97.set 78 (.ref q98)))), (q1, .inl (cI, 4000, (.inl (fun _ => 0)))), (q3, .inl (cI, 6, (.inl (fun _ => 0)))), (q5, .inl (cI, 49152, (.inl (fun _ => 0)))), (q7, .inl (cZ, 768, (.inl (fun _ => 0)))), (q98, .inl (cJ, 900, (.inr (.inl (fun _ => 0)))))] := hD_383
  clear hD_383
  obtain ⟨fs_99, efs_99⟩ : ∃ y, y = (fs_97.set 78 (.ref q98)) := ⟨_, rfl⟩
  rw [← efs_99] at hP_384 hD_385
  have hfl_99 : fs_99.length = 172 := by rw [efs_99, List.length_set]; exact hfl_97
  clear hfl_97
  have hP_386 := hP_384.sub (ws' := [(h0, .inr (12, fs_99)), (q1, .inl (cI, 4000, (.inl (fun _ => 0)))), (q3, .inl (cI, 6, (.inl (fun _ => 0)))), (q5, .inl (cI, 49152, (.inl (fun _ => 0)))), (q7, .inl (cZ, 768, (.inl (fun _ => 0))))]) [0, 1, 2, 3, 4] rfl
  clear hP_384
  have hD_387 := hD_385.sub (ws' := [(h0, .inr (12, fs_99)), (q1, .inl (cI, 4000, (.inl (fun _ => 0)))), (q3, .inl (cI, 6, (.inl (fun _ => 0)))), (q5, .inl (cI, 49152, (.inl (fun _ => 0)))), (q7, .inl (cZ, 768, (.inl (fun _ => 0))))]) [0, 1, 2, 3, 4] (by decide) rfl
  clear hD_385
  refine lv_aload_n hx hb dX12_init_418 rfl (lv_at hl 0 rfl) ?_
  refine lv_sipush (v := 900) hx hb dX12_init_419 (by decide) ?_
  refine nw_arr (atype := .long) (N' := 900) (a0 := (900, (.inr (.inl (fun _ => 0))))) hx hb (hts (.arrayClass .long) (List.mem_of_getElem? (i := 57) rfl)) rfl hK 3 (cI := cJ) rfl hP_386 hD_387 hS_383 hA (fun _ => rfl) (by decide) (by decide) (by decide) (Nat.le_of_ble_eq_true rfl) (Nat.le_of_ble_eq_true rfl) dX12_init_422 (fun q100 H_388 hP_388 hD_388 hS_388 => ?_)
  clear hP_386 hD_387 hS_383
  have hP_389 : va_P (dC, dI) vwCl [(h0, .inr (12, fs_99)), (q1, .inl (cI, 4000, (.inl (fun _ => 0)))), (q3, .inl (cI, 6, (.inl (fun _ => 0)))), (q5, .inl (cI, 49152, (.inl (fun _ => 0)))), (q7, .inl (cZ, 768, (.inl (fun _ => 0)))), (q100, .inl (cJ, 900, (.inr (.inl (fun _ => 0)))))] H_388 := hP_388
  clear hP_388
  have hD_390 : va_D A [(h0, .inr (12, fs_99)), (q1, .inl (cI, 4000, (.inl (fun _ => 0)))), (q3, .inl (cI, 6, (.inl (fun _ => 0)))), (q5, .inl (cI, 49152, (.inl (fun _ => 0)))), (q7, .inl (cZ, 768, (.inl (fun _ => 0)))), (q100, .inl (cJ, 900, (.inr (.inl (fun _ => 0)))))] := hD_388
  clear hD_388
  refine W.widen (k := 50) (n := 401488) (by decide) (by decide) ?_
  refine va_putF (D := (dC, dI)) (ci := 12) (v := .ref q100) (ty := .array (.long)) (C := RX12) (T := TX12) (N := 172) hx hb hts inq_X12_init_c12 tyX12 tyX12_ok nmX12 hown hK hP_389 hD_390 hS_388 0 rfl rfl 79 (by decide) (hts (.fieldLink RX12 166 "DiskEvidenceModel" "alteredOf" "[J") (List.mem_of_getElem? (i := 60) rfl)) (fun _ h9 => h9) rfl hin rfl (by decide +kernel) rfl rfl (by rw [hfl_99]; decide) dX12_init_424 (fun H_391 locs_391 hP_391 hD_391 hS_391 => ?_)
  clear hP_389 hD_390 hS_388
  have hP_392 : va_P (dC, dI) vwCl [(h0, .inr (12, (fs_99.set 79 (.ref q100)))), (q1, .inl (cI, 4000, (.inl (fun _ => 0)))), (q3, .inl (cI, 6, (.inl (fun _ => 0)))), (q5, .inl (cI, 49152, (.inl (fun _ => 0)))), (q7, .inl (cZ, 768, (.inl (fun _ => 0)))), (q100, .inl (cJ, 900, (.inr (.inl (fun _ => 0)))))] H_391 := hP_391
  clear hP_391
  have hD_393 : va_D A [(h0, .inr (12, (fs_99.set 79 (.ref q100)))), (q1, .inl (cI, 4000, (.inl (fun _ => 0)))), (q3, .inl (cI, 6, (.inl (fun _ => 0)))), (q5, .inl (cI, 49152, (.inl (fun _ => 0)))), (q7, .inl (cZ, 768, (.inl (fun _ => 0)))), (q100, .inl (cJ, 900, (.inr (.inl (fun _ => 0)))))] := hD_391
  clear hD_391
  obtain ⟨fs_101, efs_101⟩ : ∃ y, y = (fs_99.set 79 (.ref q100)) := ⟨_, rfl⟩
  rw [← efs_101] at hP_392 hD_393
  have hfl_101 : fs_101.length = 172 := by rw [efs_101, List.length_set]; exact hfl_99
  clear hfl_99
  have hP_394 := hP_392.sub (ws' := [(h0, .inr (12, fs_101)), (q1, .inl (cI, 4000, (.inl (fun _ => 0)))), (q3, .inl (cI, 6, (.inl (fun _ => 0)))), (q5, .inl (cI, 49152, (.inl (fun _ => 0)))), (q7, .inl (cZ, 768, (.inl (fun _ => 0))))]) [0, 1, 2, 3, 4] rfl
  clear hP_392
  have hD_395 := hD_393.sub (ws' := [(h0, .inr (12, fs_101)), (q1, .inl (cI, 4000, (.inl (fun _ => 0)))), (q3, .inl (cI, 6, (.inl (fun _ => 0)))), (q5, .inl (cI, 49152, (.inl (fun _ => 0)))), (q7, .inl (cZ, 768, (.inl (fun _ => 0))))]) [0, 1, 2, 3, 4] (by decide) rfl
  clear hD_393
  refine lv_aload_n hx hb dX12_init_427 rfl (lv_at hl 0 rfl) ?_
  refine lv_sipush (v := 900) hx hb dX12_init_428 (by decide) ?_
  refine nw_arr (atype := .long) (N' := 900) (a0 := (900, (.inr (.inl (fun _ => 0))))) hx hb (hts (.arrayClass .long) (List.mem_of_getElem? (i := 57) rfl)) rfl hK 3 (cI := cJ) rfl hP_394 hD_395 hS_391 hA (fun _ => rfl) (by decide) (by decide) (by decide) (Nat.le_of_ble_eq_true rfl) (Nat.le_of_ble_eq_true rfl) dX12_init_431 (fun q102 H_396 hP_396 hD_396 hS_396 => ?_)
  clear hP_394 hD_395 hS_391
  have hP_397 : va_P (dC, dI) vwCl [(h0, .inr (12, fs_101)), (q1, .inl (cI, 4000, (.inl (fun _ => 0)))), (q3, .inl (cI, 6, (.inl (fun _ => 0)))), (q5, .inl (cI, 49152, (.inl (fun _ => 0)))), (q7, .inl (cZ, 768, (.inl (fun _ => 0)))), (q102, .inl (cJ, 900, (.inr (.inl (fun _ => 0)))))] H_396 := hP_396
  clear hP_396
  have hD_398 : va_D A [(h0, .inr (12, fs_101)), (q1, .inl (cI, 4000, (.inl (fun _ => 0)))), (q3, .inl (cI, 6, (.inl (fun _ => 0)))), (q5, .inl (cI, 49152, (.inl (fun _ => 0)))), (q7, .inl (cZ, 768, (.inl (fun _ => 0)))), (q102, .inl (cJ, 900, (.inr (.inl (fun _ => 0)))))] := hD_396
  clear hD_396
  refine W.widen (k := 51) (n := 402388) (by decide) (by decide) ?_
  refine va_putF (D := (dC, dI)) (ci := 12) (v := .ref q102) (ty := .array (.long)) (C := RX12) (T := TX12) (N := 172) hx hb hts inq_X12_init_c12 tyX12 tyX12_ok nmX12 hown hK hP_397 hD_398 hS_396 0 rfl rfl 80 (by decide) (hts (.fieldLink RX12 169 "DiskEvidenceModel" "erasedOf" "[J") (List.mem_of_getElem? (i := 61) rfl)) (fun _ h9 => h9) rfl hin rfl (by decide +kernel) rfl rfl (by rw [hfl_101]; decide) dX12_init_433 (fun H_399 locs_399 hP_399 hD_399 hS_399 => ?_)
  clear hP_397 hD_398 hS_396
  have hP_400 : va_P (dC, dI) vwCl [(h0, .inr (12, (fs_101.set 80 (.ref q102)))), (q1, .inl (cI, 4000, (.inl (fun _ => 0)))), (q3, .inl (cI, 6, (.inl (fun _ => 0)))), (q5, .inl (cI, 49152, (.inl (fun _ => 0)))), (q7, .inl (cZ, 768, (.inl (fun _ => 0)))), (q102, .inl (cJ, 900, (.inr (.inl (fun _ => 0)))))] H_399 := hP_399
  clear hP_399
  have hD_401 : va_D A [(h0, .inr (12, (fs_101.set 80 (.ref q102)))), (q1, .inl (cI, 4000, (.inl (fun _ => 0)))), (q3, .inl (cI, 6, (.inl (fun _ => 0)))), (q5, .inl (cI, 49152, (.inl (fun _ => 0)))), (q7, .inl (cZ, 768, (.inl (fun _ => 0)))), (q102, .inl (cJ, 900, (.inr (.inl (fun _ => 0)))))] := hD_399
  clear hD_399
  obtain ⟨fs_103, efs_103⟩ : ∃ y, y = (fs_101.set 80 (.ref q102)) := ⟨_, rfl⟩
  rw [← efs_103] at hP_400 hD_401
  have hfl_103 : fs_103.length = 172 := by rw [efs_103, List.length_set]; exact hfl_101
  clear hfl_101
  have hP_402 := hP_400.sub (ws' := [(h0, .inr (12, fs_103)), (q1, .inl (cI, 4000, (.inl (fun _ => 0)))), (q3, .inl (cI, 6, (.inl (fun _ => 0)))), (q5, .inl (cI, 49152, (.inl (fun _ => 0)))), (q7, .inl (cZ, 768, (.inl (fun _ => 0))))]) [0, 1, 2, 3, 4] rfl
  clear hP_400
  have hD_403 := hD_401.sub (ws' := [(h0, .inr (12, fs_103)), (q1, .inl (cI, 4000, (.inl (fun _ => 0)))), (q3, .inl (cI, 6, (.inl (fun _ => 0)))), (q5, .inl (cI, 49152, (.inl (fun _ => 0)))), (q7, .inl (cZ, 768, (.inl (fun _ => 0))))]) [0, 1, 2, 3, 4] (by decide) rfl
  clear hD_401
  refine lv_aload_n hx hb dX12_init_436 rfl (lv_at hl 0 rfl) ?_
  refine lv_sipush (v := 900) hx hb dX12_init_437 (by decide) ?_
  refine nw_arr (atype := .int) (N' := 900) (a0 := (900, (.inl (fun _ => 0)))) hx hb (hts (.arrayClass .int) (List.mem_of_getElem? (i := 4) rfl)) rfl hK 0 (cI := cI) rfl hP_402 hD_403 hS_399 hA (fun _ => rfl) (by decide) (by decide) (by decide) (Nat.le_of_ble_eq_true rfl) (Nat.le_of_ble_eq_true rfl) dX12_init_440 (fun q104 H_404 hP_404 hD_404 hS_404 => ?_)
  clear hP_402 hD_403 hS_399
  have hP_405 : va_P (dC, dI) vwCl [(h0, .inr (12, fs_103)), (q1, .inl (cI, 4000, (.inl (fun _ => 0)))), (q3, .inl (cI, 6, (.inl (fun _ => 0)))), (q5, .inl (cI, 49152, (.inl (fun _ => 0)))), (q7, .inl (cZ, 768, (.inl (fun _ => 0)))), (q104, .inl (cI, 900, (.inl (fun _ => 0))))] H_404 := hP_404
  clear hP_404
  have hD_406 : va_D A [(h0, .inr (12, fs_103)), (q1, .inl (cI, 4000, (.inl (fun _ => 0)))), (q3, .inl (cI, 6, (.inl (fun _ => 0)))), (q5, .inl (cI, 49152, (.inl (fun _ => 0)))), (q7, .inl (cZ, 768, (.inl (fun _ => 0)))), (q104, .inl (cI, 900, (.inl (fun _ => 0))))] := hD_404
  clear hD_404
  refine W.widen (k := 52) (n := 403288) (by decide) (by decide) ?_
  refine va_putF (D := (dC, dI)) (ci := 12) (v := .ref q104) (ty := .array (.int)) (C := RX12) (T := TX12) (N := 172) hx hb hts inq_X12_init_c12 tyX12 tyX12_ok nmX12 hown hK hP_405 hD_406 hS_404 0 rfl rfl 81 (by decide) (hts (.fieldLink RX12 172 "DiskEvidenceModel" "gradeOf" "[I") (List.mem_of_getElem? (i := 62) rfl)) (fun _ h9 => h9) rfl hin rfl (by decide +kernel) rfl rfl (by rw [hfl_103]; decide) dX12_init_442 (fun H_407 locs_407 hP_407 hD_407 hS_407 => ?_)
  clear hP_405 hD_406 hS_404
  have hP_408 : va_P (dC, dI) vwCl [(h0, .inr (12, (fs_103.set 81 (.ref q104)))), (q1, .inl (cI, 4000, (.inl (fun _ => 0)))), (q3, .inl (cI, 6, (.inl (fun _ => 0)))), (q5, .inl (cI, 49152, (.inl (fun _ => 0)))), (q7, .inl (cZ, 768, (.inl (fun _ => 0)))), (q104, .inl (cI, 900, (.inl (fun _ => 0))))] H_407 := hP_407
  clear hP_407
  have hD_409 : va_D A [(h0, .inr (12, (fs_103.set 81 (.ref q104)))), (q1, .inl (cI, 4000, (.inl (fun _ => 0)))), (q3, .inl (cI, 6, (.inl (fun _ => 0)))), (q5, .inl (cI, 49152, (.inl (fun _ => 0)))), (q7, .inl (cZ, 768, (.inl (fun _ => 0)))), (q104, .inl (cI, 900, (.inl (fun _ => 0))))] := hD_407
  clear hD_407
  obtain ⟨fs_105, efs_105⟩ : ∃ y, y = (fs_103.set 81 (.ref q104)) := ⟨_, rfl⟩
  rw [← efs_105] at hP_408 hD_409
  have hfl_105 : fs_105.length = 172 := by rw [efs_105, List.length_set]; exact hfl_103
  clear hfl_103
  have hP_410 := hP_408.sub (ws' := [(h0, .inr (12, fs_105)), (q1, .inl (cI, 4000, (.inl (fun _ => 0)))), (q3, .inl (cI, 6, (.inl (fun _ => 0)))), (q5, .inl (cI, 49152, (.inl (fun _ => 0)))), (q7, .inl (cZ, 768, (.inl (fun _ => 0))))]) [0, 1, 2, 3, 4] rfl
  clear hP_408
  have hD_411 := hD_409.sub (ws' := [(h0, .inr (12, fs_105)), (q1, .inl (cI, 4000, (.inl (fun _ => 0)))), (q3, .inl (cI, 6, (.inl (fun _ => 0)))), (q5, .inl (cI, 49152, (.inl (fun _ => 0)))), (q7, .inl (cZ, 768, (.inl (fun _ => 0))))]) [0, 1, 2, 3, 4] (by decide) rfl
  clear hD_409
  refine lv_aload_n hx hb dX12_init_445 rfl (lv_at hl 0 rfl) ?_
  refine lv_sipush (v := 900) hx hb dX12_init_446 (by decide) ?_
  refine nw_arr (atype := .int) (N' := 900) (a0 := (900, (.inl (fun _ => 0)))) hx hb (hts (.arrayClass .int) (List.mem_of_getElem? (i := 4) rfl)) rfl hK 0 (cI := cI) rfl hP_410 hD_411 hS_407 hA (fun _ => rfl) (by decide) (by decide) (by decide) (Nat.le_of_ble_eq_true rfl) (Nat.le_of_ble_eq_true rfl) dX12_init_449 (fun q106 H_412 hP_412 hD_412 hS_412 => ?_)
  clear hP_410 hD_411 hS_407
  have hP_413 : va_P (dC, dI) vwCl [(h0, .inr (12, fs_105)), (q1, .inl (cI, 4000, (.inl (fun _ => 0)))), (q3, .inl (cI, 6, (.inl (fun _ => 0)))), (q5, .inl (cI, 49152, (.inl (fun _ => 0)))), (q7, .inl (cZ, 768, (.inl (fun _ => 0)))), (q106, .inl (cI, 900, (.inl (fun _ => 0))))] H_412 := hP_412
  clear hP_412
  have hD_414 : va_D A [(h0, .inr (12, fs_105)), (q1, .inl (cI, 4000, (.inl (fun _ => 0)))), (q3, .inl (cI, 6, (.inl (fun _ => 0)))), (q5, .inl (cI, 49152, (.inl (fun _ => 0)))), (q7, .inl (cZ, 768, (.inl (fun _ => 0)))), (q106, .inl (cI, 900, (.inl (fun _ => 0))))] := hD_412
  clear hD_412
  refine W.widen (k := 53) (n := 404188) (by decide) (by decide) ?_
  refine va_putF (D := (dC, dI)) (ci := 12) (v := .ref q106) (ty := .array (.int)) (C := RX12) (T := TX12) (N := 172) hx hb hts inq_X12_init_c12 tyX12 tyX12_ok nmX12 hown hK hP_413 hD_414 hS_412 0 rfl rfl 82 (by decide) (hts (.fieldLink RX12 175 "DiskEvidenceModel" "parentOf" "[I") (List.mem_of_getElem? (i := 63) rfl)) (fun _ h9 => h9) rfl hin rfl (by decide +kernel) rfl rfl (by rw [hfl_105]; decide) dX12_init_451 (fun H_415 locs_415 hP_415 hD_415 hS_415 => ?_)
  clear hP_413 hD_414 hS_412
  have hP_416 : va_P (dC, dI) vwCl [(h0, .inr (12, (fs_105.set 82 (.ref q106)))), (q1, .inl (cI, 4000, (.inl (fun _ => 0)))), (q3, .inl (cI, 6, (.inl (fun _ => 0)))), (q5, .inl (cI, 49152, (.inl (fun _ => 0)))), (q7, .inl (cZ, 768, (.inl (fun _ => 0)))), (q106, .inl (cI, 900, (.inl (fun _ => 0))))] H_415 := hP_415
  clear hP_415
  have hD_417 : va_D A [(h0, .inr (12, (fs_105.set 82 (.ref q106)))), (q1, .inl (cI, 4000, (.inl (fun _ => 0)))), (q3, .inl (cI, 6, (.inl (fun _ => 0)))), (q5, .inl (cI, 49152, (.inl (fun _ => 0)))), (q7, .inl (cZ, 768, (.inl (fun _ => 0)))), (q106, .inl (cI, 900, (.inl (fun _ => 0))))] := hD_415
  clear hD_415
  obtain ⟨fs_107, efs_107⟩ : ∃ y, y = (fs_105.set 82 (.ref q106)) := ⟨_, rfl⟩
  rw [← efs_107] at hP_416 hD_417
  have hfl_107 : fs_107.length = 172 := by rw [efs_107, List.length_set]; exact hfl_105
  clear hfl_105
  have hP_418 := hP_416.sub (ws' := [(h0, .inr (12, fs_107)), (q1, .inl (cI, 4000, (.inl (fun _ => 0)))), (q3, .inl (cI, 6, (.inl (fun _ => 0)))), (q5, .inl (cI, 49152, (.inl (fun _ => 0)))), (q7, .inl (cZ, 768, (.inl (fun _ => 0))))]) [0, 1, 2, 3, 4] rfl
  clear hP_416
  have hD_419 := hD_417.sub (ws' := [(h0, .inr (12, fs_107)), (q1, .inl (cI, 4000, (.inl (fun _ => 0)))), (q3, .inl (cI, 6, (.inl (fun _ => 0)))), (q5, .inl (cI, 49152, (.inl (fun _ => 0)))), (q7, .inl (cZ, 768, (.inl (fun _ => 0))))]) [0, 1, 2, 3, 4] (by decide) rfl
  clear hD_417
  refine lv_aload_n hx hb dX12_init_454 rfl (lv_at hl 0 rfl) ?_
  refine lv_sipush (v := 900) hx hb dX12_init_455 (by decide) ?_
  refine nw_arr (atype := .int) (N' := 900) (a0 := (900, (.inl (fun _ => 0)))) hx hb (hts (.arrayClass .int) (List.mem_of_getElem? (i := 4) rfl)) rfl hK 0 (cI := cI) rfl hP_418 hD_419 hS_415 hA (fun _ => rfl) (by decide) (by decide) (by decide) (Nat.le_of_ble_eq_true rfl) (Nat.le_of_ble_eq_true rfl) dX12_init_458 (fun q108 H_420 hP_420 hD_420 hS_420 => ?_)
  clear hP_418 hD_419 hS_415
  have hP_421 : va_P (dC, dI) vwCl [(h0, .inr (12, fs_107)), (q1, .inl (cI, 4000, (.inl (fun _ => 0)))), (q3, .inl (cI, 6, (.inl (fun _ => 0)))), (q5, .inl (cI, 49152, (.inl (fun _ => 0)))), (q7, .inl (cZ, 768, (.inl (fun _ => 0)))), (q108, .inl (cI, 900, (.inl (fun _ => 0))))] H_420 := hP_420
  clear hP_420
  have hD_422 : va_D A [(h0, .inr (12, fs_107)), (q1, .inl (cI, 4000, (.inl (fun _ => 0)))), (q3, .inl (cI, 6, (.inl (fun _ => 0)))), (q5, .inl (cI, 49152, (.inl (fun _ => 0)))), (q7, .inl (cZ, 768, (.inl (fun _ => 0)))), (q108, .inl (cI, 900, (.inl (fun _ => 0))))] := hD_420
  clear hD_420
  refine W.widen (k := 54) (n := 405088) (by decide) (by decide) ?_
  refine va_putF (D := (dC, dI)) (ci := 12) (v := .ref q108) (ty := .array (.int)) (C := RX12) (T := TX12) (N := 172) hx hb hts inq_X12_init_c12 tyX12 tyX12_ok nmX12 hown hK hP_421 hD_422 hS_420 0 rfl rfl 83 (by decide) (hts (.fieldLink RX12 178 "DiskEvidenceModel" "depthOf" "[I") (List.mem_of_getElem? (i := 64) rfl)) (fun _ h9 => h9) rfl hin rfl (by decide +kernel) rfl rfl (by rw [hfl_107]; decide) dX12_init_460 (fun H_423 locs_423 hP_423 hD_423 hS_423 => ?_)
  clear hP_421 hD_422 hS_420
  have hP_424 : va_P (dC, dI) vwCl [(h0, .inr (12, (fs_107.set 83 (.ref q108)))), (q1, .inl (cI, 4000, (.inl (fun _ => 0)))), (q3, .inl (cI, 6, (.inl (fun _ => 0)))), (q5, .inl (cI, 49152, (.inl (fun _ => 0)))), (q7, .inl (cZ, 768, (.inl (fun _ => 0)))), (q108, .inl (cI, 900, (.inl (fun _ => 0))))] H_423 := hP_423
  clear hP_423
  have hD_425 : va_D A [(h0, .inr (12, (fs_107.set 83 (.ref q108)))), (q1, .inl (cI, 4000, (.inl (fun _ => 0)))), (q3, .inl (cI, 6, (.inl (fun _ => 0)))), (q5, .inl (cI, 49152, (.inl (fun _ => 0)))), (q7, .inl (cZ, 768, (.inl (fun _ => 0)))), (q108, .inl (cI, 900, (.inl (fun _ => 0))))] := hD_423
  clear hD_423
  obtain ⟨fs_109, efs_109⟩ : ∃ y, y = (fs_107.set 83 (.ref q108)) := ⟨_, rfl⟩
  rw [← efs_109] at hP_424 hD_425
  have hfl_109 : fs_109.length = 172 := by rw [efs_109, List.length_set]; exact hfl_107
  clear hfl_107
  have hP_426 := hP_424.sub (ws' := [(h0, .inr (12, fs_109)), (q1, .inl (cI, 4000, (.inl (fun _ => 0)))), (q3, .inl (cI, 6, (.inl (fun _ => 0)))), (q5, .inl (cI, 49152, (.inl (fun _ => 0)))), (q7, .inl (cZ, 768, (.inl (fun _ => 0))))]) [0, 1, 2, 3, 4] rfl
  clear hP_424
  have hD_427 := hD_425.sub (ws' := [(h0, .inr (12, fs_109)), (q1, .inl (cI, 4000, (.inl (fun _ => 0)))), (q3, .inl (cI, 6, (.inl (fun _ => 0)))), (q5, .inl (cI, 49152, (.inl (fun _ => 0)))), (q7, .inl (cZ, 768, (.inl (fun _ => 0))))]) [0, 1, 2, 3, 4] (by decide) rfl
  clear hD_425
  refine lv_aload_n hx hb dX12_init_463 rfl (lv_at hl 0 rfl) ?_
  refine lv_sipush (v := 900) hx hb dX12_init_464 (by decide) ?_
  refine nw_arr (atype := .int) (N' := 900) (a0 := (900, (.inl (fun _ => 0)))) hx hb (hts (.arrayClass .int) (List.mem_of_getElem? (i := 4) rfl)) rfl hK 0 (cI := cI) rfl hP_426 hD_427 hS_423 hA (fun _ => rfl) (by decide) (by decide) (by decide) (Nat.le_of_ble_eq_true rfl) (Nat.le_of_ble_eq_true rfl) dX12_init_467 (fun q110 H_428 hP_428 hD_428 hS_428 => ?_)
  clear hP_426 hD_427 hS_423
  have hP_429 : va_P (dC, dI) vwCl [(h0, .inr (12, fs_109)), (q1, .inl (cI, 4000, (.inl (fun _ => 0)))), (q3, .inl (cI, 6, (.inl (fun _ => 0)))), (q5, .inl (cI, 49152, (.inl (fun _ => 0)))), (q7, .inl (cZ, 768, (.inl (fun _ => 0)))), (q110, .inl (cI, 900, (.inl (fun _ => 0))))] H_428 := hP_428
  clear hP_428
  have hD_430 : va_D A [(h0, .inr (12, fs_109)), (q1, .inl (cI, 4000, (.inl (fun _ => 0)))), (q3, .inl (cI, 6, (.inl (fun _ => 0)))), (q5, .inl (cI, 49152, (.inl (fun _ => 0)))), (q7, .inl (cZ, 768, (.inl (fun _ => 0)))), (q110, .inl (cI, 900, (.inl (fun _ => 0))))] := hD_428
  clear hD_428
  refine W.widen (k := 55) (n := 405988) (by decide) (by decide) ?_
  refine va_putF (D := (dC, dI)) (ci := 12) (v := .ref q110) (ty := .array (.int)) (C := RX12) (T := TX12) (N := 172) hx hb hts inq_X12_init_c12 tyX12 tyX12_ok nmX12 hown hK hP_429 hD_430 hS_428 0 rfl rfl 84 (by decide) (hts (.fieldLink RX12 181 "DiskEvidenceModel" "faultsOf" "[I") (List.mem_of_getElem? (i := 65) rfl)) (fun _ h9 => h9) rfl hin rfl (by decide +kernel) rfl rfl (by rw [hfl_109]; decide) dX12_init_469 (fun H_431 locs_431 hP_431 hD_431 hS_431 => ?_)
  clear hP_429 hD_430 hS_428
  have hP_432 : va_P (dC, dI) vwCl [(h0, .inr (12, (fs_109.set 84 (.ref q110)))), (q1, .inl (cI, 4000, (.inl (fun _ => 0)))), (q3, .inl (cI, 6, (.inl (fun _ => 0)))), (q5, .inl (cI, 49152, (.inl (fun _ => 0)))), (q7, .inl (cZ, 768, (.inl (fun _ => 0)))), (q110, .inl (cI, 900, (.inl (fun _ => 0))))] H_431 := hP_431
  clear hP_431
  have hD_433 : va_D A [(h0, .inr (12, (fs_109.set 84 (.ref q110)))), (q1, .inl (cI, 4000, (.inl (fun _ => 0)))), (q3, .inl (cI, 6, (.inl (fun _ => 0)))), (q5, .inl (cI, 49152, (.inl (fun _ => 0)))), (q7, .inl (cZ, 768, (.inl (fun _ => 0)))), (q110, .inl (cI, 900, (.inl (fun _ => 0))))] := hD_431
  clear hD_431
  obtain ⟨fs_111, efs_111⟩ : ∃ y, y = (fs_109.set 84 (.ref q110)) := ⟨_, rfl⟩
  rw [← efs_111] at hP_432 hD_433
  have hfl_111 : fs_111.length = 172 := by rw [efs_111, List.length_set]; exact hfl_109
  clear hfl_109
  have hP_434 := hP_432.sub (ws' := [(h0, .inr (12, fs_111)), (q1, .inl (cI, 4000, (.inl (fun _ => 0)))), (q3, .inl (cI, 6, (.inl (fun _ => 0)))), (q5, .inl (cI, 49152, (.inl (fun _ => 0)))), (q7, .inl (cZ, 768, (.inl (fun _ => 0))))]) [0, 1, 2, 3, 4] rfl
  clear hP_432
  have hD_435 := hD_433.sub (ws' := [(h0, .inr (12, fs_111)), (q1, .inl (cI, 4000, (.inl (fun _ => 0)))), (q3, .inl (cI, 6, (.inl (fun _ => 0)))), (q5, .inl (cI, 49152, (.inl (fun _ => 0)))), (q7, .inl (cZ, 768, (.inl (fun _ => 0))))]) [0, 1, 2, 3, 4] (by decide) rfl
  clear hD_433
  refine lv_aload_n hx hb dX12_init_472 rfl (lv_at hl 0 rfl) ?_
  refine lv_sipush (v := 900) hx hb dX12_init_473 (by decide) ?_
  refine nw_arr (atype := .int) (N' := 900) (a0 := (900, (.inl (fun _ => 0)))) hx hb (hts (.arrayClass .int) (List.mem_of_getElem? (i := 4) rfl)) rfl hK 0 (cI := cI) rfl hP_434 hD_435 hS_431 hA (fun _ => rfl) (by decide) (by decide) (by decide) (Nat.le_of_ble_eq_true rfl) (Nat.le_of_ble_eq_true rfl) dX12_init_476 (fun q112 H_436 hP_436 hD_436 hS_436 => ?_)
  clear hP_434 hD_435 hS_431
  have hP_437 : va_P (dC, dI) vwCl [(h0, .inr (12, fs_111)), (q1, .inl (cI, 4000, (.inl (fun _ => 0)))), (q3, .inl (cI, 6, (.inl (fun _ => 0)))), (q5, .inl (cI, 49152, (.inl (fun _ => 0)))), (q7, .inl (cZ, 768, (.inl (fun _ => 0)))), (q112, .inl (cI, 900, (.inl (fun _ => 0))))] H_436 := hP_436
  clear hP_436
  have hD_438 : va_D A [(h0, .inr (12, fs_111)), (q1, .inl (cI, 4000, (.inl (fun _ => 0)))), (q3, .inl (cI, 6, (.inl (fun _ => 0)))), (q5, .inl (cI, 49152, (.inl (fun _ => 0)))), (q7, .inl (cZ, 768, (.inl (fun _ => 0)))), (q112, .inl (cI, 900, (.inl (fun _ => 0))))] := hD_436
  clear hD_436
  refine W.widen (k := 56) (n := 406888) (by decide) (by decide) ?_
  refine va_putF (D := (dC, dI)) (ci := 12) (v := .ref q112) (ty := .array (.int)) (C := RX12) (T := TX12) (N := 172) hx hb hts inq_X12_init_c12 tyX12 tyX12_ok nmX12 hown hK hP_437 hD_438 hS_436 0 rfl rfl 85 (by decide) (hts (.fieldLink RX12 184 "DiskEvidenceModel" "blocksMany" "[I") (List.mem_of_getElem? (i := 66) rfl)) (fun _ h9 => h9) rfl hin rfl (by decide +kernel) rfl rfl (by rw [hfl_111]; decide) dX12_init_478 (fun H_439 locs_439 hP_439 hD_439 hS_439 => ?_)
  clear hP_437 hD_438 hS_436
  have hP_440 : va_P (dC, dI) vwCl [(h0, .inr (12, (fs_111.set 85 (.ref q112)))), (q1, .inl (cI, 4000, (.inl (fun _ => 0)))), (q3, .inl (cI, 6, (.inl (fun _ => 0)))), (q5, .inl (cI, 49152, (.inl (fun _ => 0)))), (q7, .inl (cZ, 768, (.inl (fun _ => 0)))), (q112, .inl (cI, 900, (.inl (fun _ => 0))))] H_439 := hP_439
  clear hP_439
  have hD_441 : va_D A [(h0, .inr (12, (fs_111.set 85 (.ref q112)))), (q1, .inl (cI, 4000, (.inl (fun _ => 0)))), (q3, .inl (cI, 6, (.inl (fun _ => 0)))), (q5, .inl (cI, 49152, (.inl (fun _ => 0)))), (q7, .inl (cZ, 768, (.inl (fun _ => 0)))), (q112, .inl (cI, 900, (.inl (fun _ => 0))))] := hD_439
  clear hD_439
  obtain ⟨fs_113, efs_113⟩ : ∃ y, y = (fs_111.set 85 (.ref q112)) := ⟨_, rfl⟩
  rw [← efs_113] at hP_440 hD_441
  have hfl_113 : fs_113.length = 172 := by rw [efs_113, List.length_set]; exact hfl_111
  clear hfl_111
  have hP_442 := hP_440.sub (ws' := [(h0, .inr (12, fs_113)), (q1, .inl (cI, 4000, (.inl (fun _ => 0)))), (q3, .inl (cI, 6, (.inl (fun _ => 0)))), (q5, .inl (cI, 49152, (.inl (fun _ => 0)))), (q7, .inl (cZ, 768, (.inl (fun _ => 0))))]) [0, 1, 2, 3, 4] rfl
  clear hP_440
  have hD_443 := hD_441.sub (ws' := [(h0, .inr (12, fs_113)), (q1, .inl (cI, 4000, (.inl (fun _ => 0)))), (q3, .inl (cI, 6, (.inl (fun _ => 0)))), (q5, .inl (cI, 49152, (.inl (fun _ => 0)))), (q7, .inl (cZ, 768, (.inl (fun _ => 0))))]) [0, 1, 2, 3, 4] (by decide) rfl
  clear hD_441
  refine lv_aload_n hx hb dX12_init_481 rfl (lv_at hl 0 rfl) ?_
  refine lv_ldc (v := 230400) hx hb hown (hts (.constant RX12 187 (230400)) (List.mem_of_getElem? (i := 67) rfl)) dX12_init_482 ?_
  refine nw_arr (atype := .int) (N' := 230400) (a0 := (230400, (.inl (fun _ => 0)))) hx hb (hts (.arrayClass .int) (List.mem_of_getElem? (i := 4) rfl)) rfl hK 0 (cI := cI) rfl hP_442 hD_443 hS_439 hA (fun _ => rfl) (by decide) (by decide) (by decide) (Nat.le_of_ble_eq_true rfl) (Nat.le_of_ble_eq_true rfl) dX12_init_484 (fun q114 H_444 hP_444 hD_444 hS_444 => ?_)
  clear hP_442 hD_443 hS_439
  have hP_445 : va_P (dC, dI) vwCl [(h0, .inr (12, fs_113)), (q1, .inl (cI, 4000, (.inl (fun _ => 0)))), (q3, .inl (cI, 6, (.inl (fun _ => 0)))), (q5, .inl (cI, 49152, (.inl (fun _ => 0)))), (q7, .inl (cZ, 768, (.inl (fun _ => 0)))), (q114, .inl (cI, 230400, (.inl (fun _ => 0))))] H_444 := hP_444
  clear hP_444
  have hD_446 : va_D A [(h0, .inr (12, fs_113)), (q1, .inl (cI, 4000, (.inl (fun _ => 0)))), (q3, .inl (cI, 6, (.inl (fun _ => 0)))), (q5, .inl (cI, 49152, (.inl (fun _ => 0)))), (q7, .inl (cZ, 768, (.inl (fun _ => 0)))), (q114, .inl (cI, 230400, (.inl (fun _ => 0))))] := hD_444
  clear hD_444
  refine W.widen (k := 57) (n := 637288) (by decide) (by decide) ?_
  refine va_putF (D := (dC, dI)) (ci := 12) (v := .ref q114) (ty := .array (.int)) (C := RX12) (T := TX12) (N := 172) hx hb hts inq_X12_init_c12 tyX12 tyX12_ok nmX12 hown hK hP_445 hD_446 hS_444 0 rfl rfl 86 (by decide) (hts (.fieldLink RX12 188 "DiskEvidenceModel" "fileBlocks" "[I") (List.mem_of_getElem? (i := 68) rfl)) (fun _ h9 => h9) rfl hin rfl (by decide +kernel) rfl rfl (by rw [hfl_113]; decide) dX12_init_486 (fun H_447 locs_447 hP_447 hD_447 hS_447 => ?_)
  clear hP_445 hD_446 hS_444
  have hP_448 : va_P (dC, dI) vwCl [(h0, .inr (12, (fs_113.set 86 (.ref q114)))), (q1, .inl (cI, 4000, (.inl (fun _ => 0)))), (q3, .inl (cI, 6, (.inl (fun _ => 0)))), (q5, .inl (cI, 49152, (.inl (fun _ => 0)))), (q7, .inl (cZ, 768, (.inl (fun _ => 0)))), (q114, .inl (cI, 230400, (.inl (fun _ => 0))))] H_447 := hP_447
  clear hP_447
  have hD_449 : va_D A [(h0, .inr (12, (fs_113.set 86 (.ref q114)))), (q1, .inl (cI, 4000, (.inl (fun _ => 0)))), (q3, .inl (cI, 6, (.inl (fun _ => 0)))), (q5, .inl (cI, 49152, (.inl (fun _ => 0)))), (q7, .inl (cZ, 768, (.inl (fun _ => 0)))), (q114, .inl (cI, 230400, (.inl (fun _ => 0))))] := hD_447
  clear hD_447
  obtain ⟨fs_115, efs_115⟩ : ∃ y, y = (fs_113.set 86 (.ref q114)) := ⟨_, rfl⟩
  rw [← efs_115] at hP_448 hD_449
  have hfl_115 : fs_115.length = 172 := by rw [efs_115, List.length_set]; exact hfl_113
  clear hfl_113
  have hP_450 := hP_448.sub (ws' := [(h0, .inr (12, fs_115)), (q1, .inl (cI, 4000, (.inl (fun _ => 0)))), (q3, .inl (cI, 6, (.inl (fun _ => 0)))), (q5, .inl (cI, 49152, (.inl (fun _ => 0)))), (q7, .inl (cZ, 768, (.inl (fun _ => 0))))]) [0, 1, 2, 3, 4] rfl
  clear hP_448
  have hD_451 := hD_449.sub (ws' := [(h0, .inr (12, fs_115)), (q1, .inl (cI, 4000, (.inl (fun _ => 0)))), (q3, .inl (cI, 6, (.inl (fun _ => 0)))), (q5, .inl (cI, 49152, (.inl (fun _ => 0)))), (q7, .inl (cZ, 768, (.inl (fun _ => 0))))]) [0, 1, 2, 3, 4] (by decide) rfl
  clear hD_449
  refine lv_aload_n hx hb dX12_init_489 rfl (lv_at hl 0 rfl) ?_
  refine lv_sipush (v := 900) hx hb dX12_init_490 (by decide) ?_
  refine nw_arr (atype := .int) (N' := 900) (a0 := (900, (.inl (fun _ => 0)))) hx hb (hts (.arrayClass .int) (List.mem_of_getElem? (i := 4) rfl)) rfl hK 0 (cI := cI) rfl hP_450 hD_451 hS_447 hA (fun _ => rfl) (by decide) (by decide) (by decide) (Nat.le_of_ble_eq_true rfl) (Nat.le_of_ble_eq_true rfl) dX12_init_493 (fun q116 H_452 hP_452 hD_452 hS_452 => ?_)
  clear hP_450 hD_451 hS_447
  have hP_453 : va_P (dC, dI) vwCl [(h0, .inr (12, fs_115)), (q1, .inl (cI, 4000, (.inl (fun _ => 0)))), (q3, .inl (cI, 6, (.inl (fun _ => 0)))), (q5, .inl (cI, 49152, (.inl (fun _ => 0)))), (q7, .inl (cZ, 768, (.inl (fun _ => 0)))), (q116, .inl (cI, 900, (.inl (fun _ => 0))))] H_452 := hP_452
  clear hP_452
  have hD_454 : va_D A [(h0, .inr (12, fs_115)), (q1, .inl (cI, 4000, (.inl (fun _ => 0)))), (q3, .inl (cI, 6, (.inl (fun _ => 0)))), (q5, .inl (cI, 49152, (.inl (fun _ => 0)))), (q7, .inl (cZ, 768, (.inl (fun _ => 0)))), (q116, .inl (cI, 900, (.inl (fun _ => 0))))] := hD_452
  clear hD_452
  refine W.widen (k := 58) (n := 638188) (by decide) (by decide) ?_
  refine va_putF (D := (dC, dI)) (ci := 12) (v := .ref q116) (ty := .array (.int)) (C := RX12) (T := TX12) (N := 172) hx hb hts inq_X12_init_c12 tyX12 tyX12_ok nmX12 hown hK hP_453 hD_454 hS_452 0 rfl rfl 87 (by decide) (hts (.fieldLink RX12 191 "DiskEvidenceModel" "nameMany" "[I") (List.mem_of_getElem? (i := 69) rfl)) (fun _ h9 => h9) rfl hin rfl (by decide +kernel) rfl rfl (by rw [hfl_115]; decide) dX12_init_495 (fun H_455 locs_455 hP_455 hD_455 hS_455 => ?_)
  clear hP_453 hD_454 hS_452
  have hP_456 : va_P (dC, dI) vwCl [(h0, .inr (12, (fs_115.set 87 (.ref q116)))), (q1, .inl (cI, 4000, (.inl (fun _ => 0)))), (q3, .inl (cI, 6, (.inl (fun _ => 0)))), (q5, .inl (cI, 49152, (.inl (fun _ => 0)))), (q7, .inl (cZ, 768, (.inl (fun _ => 0)))), (q116, .inl (cI, 900, (.inl (fun _ => 0))))] H_455 := hP_455
  clear hP_455
  have hD_457 : va_D A [(h0, .inr (12, (fs_115.set 87 (.ref q116)))), (q1, .inl (cI, 4000, (.inl (fun _ => 0)))), (q3, .inl (cI, 6, (.inl (fun _ => 0)))), (q5, .inl (cI, 49152, (.inl (fun _ => 0)))), (q7, .inl (cZ, 768, (.inl (fun _ => 0)))), (q116, .inl (cI, 900, (.inl (fun _ => 0))))] := hD_455
  clear hD_455
  obtain ⟨fs_117, efs_117⟩ : ∃ y, y = (fs_115.set 87 (.ref q116)) := ⟨_, rfl⟩
  rw [← efs_117] at hP_456 hD_457
  have hfl_117 : fs_117.length = 172 := by rw [efs_117, List.length_set]; exact hfl_115
  clear hfl_115
  have hP_458 := hP_456.sub (ws' := [(h0, .inr (12, fs_117)), (q1, .inl (cI, 4000, (.inl (fun _ => 0)))), (q3, .inl (cI, 6, (.inl (fun _ => 0)))), (q5, .inl (cI, 49152, (.inl (fun _ => 0)))), (q7, .inl (cZ, 768, (.inl (fun _ => 0))))]) [0, 1, 2, 3, 4] rfl
  clear hP_456
  have hD_459 := hD_457.sub (ws' := [(h0, .inr (12, fs_117)), (q1, .inl (cI, 4000, (.inl (fun _ => 0)))), (q3, .inl (cI, 6, (.inl (fun _ => 0)))), (q5, .inl (cI, 49152, (.inl (fun _ => 0)))), (q7, .inl (cZ, 768, (.inl (fun _ => 0))))]) [0, 1, 2, 3, 4] (by decide) rfl
  clear hD_457
  refine lv_aload_n hx hb dX12_init_498 rfl (lv_at hl 0 rfl) ?_
  refine lv_sipush (v := 28800) hx hb dX12_init_499 (by decide) ?_
  refine nw_arr (atype := .int) (N' := 28800) (a0 := (28800, (.inl (fun _ => 0)))) hx hb (hts (.arrayClass .int) (List.mem_of_getElem? (i := 4) rfl)) rfl hK 0 (cI := cI) rfl hP_458 hD_459 hS_455 hA (fun _ => rfl) (by decide) (by decide) (by decide) (Nat.le_of_ble_eq_true rfl) (Nat.le_of_ble_eq_true rfl) dX12_init_502 (fun q118 H_460 hP_460 hD_460 hS_460 => ?_)
  clear hP_458 hD_459 hS_455
  have hP_461 : va_P (dC, dI) vwCl [(h0, .inr (12, fs_117)), (q1, .inl (cI, 4000, (.inl (fun _ => 0)))), (q3, .inl (cI, 6, (.inl (fun _ => 0)))), (q5, .inl (cI, 49152, (.inl (fun _ => 0)))), (q7, .inl (cZ, 768, (.inl (fun _ => 0)))), (q118, .inl (cI, 28800, (.inl (fun _ => 0))))] H_460 := hP_460
  clear hP_460
  have hD_462 : va_D A [(h0, .inr (12, fs_117)), (q1, .inl (cI, 4000, (.inl (fun _ => 0)))), (q3, .inl (cI, 6, (.inl (fun _ => 0)))), (q5, .inl (cI, 49152, (.inl (fun _ => 0)))), (q7, .inl (cZ, 768, (.inl (fun _ => 0)))), (q118, .inl (cI, 28800, (.inl (fun _ => 0))))] := hD_460
  clear hD_460
  refine W.widen (k := 59) (n := 666988) (by decide) (by decide) ?_
  refine va_putF (D := (dC, dI)) (ci := 12) (v := .ref q118) (ty := .array (.int)) (C := RX12) (T := TX12) (N := 172) hx hb hts inq_X12_init_c12 tyX12 tyX12_ok nmX12 hown hK hP_461 hD_462 hS_460 0 rfl rfl 88 (by decide) (hts (.fieldLink RX12 194 "DiskEvidenceModel" "nameBytes" "[I") (List.mem_of_getElem? (i := 70) rfl)) (fun _ h9 => h9) rfl hin rfl (by decide +kernel) rfl rfl (by rw [hfl_117]; decide) dX12_init_504 (fun H_463 locs_463 hP_463 hD_463 hS_463 => ?_)
  clear hP_461 hD_462 hS_460
  have hP_464 : va_P (dC, dI) vwCl [(h0, .inr (12, (fs_117.set 88 (.ref q118)))), (q1, .inl (cI, 4000, (.inl (fun _ => 0)))), (q3, .inl (cI, 6, (.inl (fun _ => 0)))), (q5, .inl (cI, 49152, (.inl (fun _ => 0)))), (q7, .inl (cZ, 768, (.inl (fun _ => 0)))), (q118, .inl (cI, 28800, (.inl (fun _ => 0))))] H_463 := hP_463
  clear hP_463
  have hD_465 : va_D A [(h0, .inr (12, (fs_117.set 88 (.ref q118)))), (q1, .inl (cI, 4000, (.inl (fun _ => 0)))), (q3, .inl (cI, 6, (.inl (fun _ => 0)))), (q5, .inl (cI, 49152, (.inl (fun _ => 0)))), (q7, .inl (cZ, 768, (.inl (fun _ => 0)))), (q118, .inl (cI, 28800, (.inl (fun _ => 0))))] := hD_463
  clear hD_463
  obtain ⟨fs_119, efs_119⟩ : ∃ y, y = (fs_117.set 88 (.ref q118)) := ⟨_, rfl⟩
  rw [← efs_119] at hP_464 hD_465
  have hfl_119 : fs_119.length = 172 := by rw [efs_119, List.length_set]; exact hfl_117
  clear hfl_117
  have el_119 : fs_119 = [.int 0, .ref q1, .int 0, .int 0, .ref q3, .ref q5, .ref q7, .int 0, .ref q9, .ref q11, .ref q13, .ref q15, .ref q17, .ref q19, .ref q21, .int 1, .int 0, .ref q24, .ref q26, .int 0, .int 0, .ref q28, .ref q30, .ref q32, .ref q34, .ref q36, .int 0, .ref q38, .ref q40, .int 0, .int 0, .ref q42, .ref q44, .ref q46, .int 0, .ref q48, .ref q50, .ref q52, .ref q54, .int 0, .int 0, .int 0, .int 0, .int 0, .int 0, .int 0, .int 0, .int 0, .int 0, .int 0, .ref q56, .ref q58, .int 0, .int 0, .ref q60, .int 0, .int 0, .int 0, .int 0, .int 0, .ref q62, .ref q64, .ref q66, .ref q68, .ref q70, .ref q72, .ref q74, .ref q76, .ref q78, .ref q80, .ref q82, .ref q84, .ref q86, .ref q88, .ref q90, .ref q92, .ref q94, .ref q96, .ref q98, .ref q100, .ref q102, .ref q104, .ref q106, .ref q108, .ref q110, .ref q112, .ref q114, .ref q116, .ref q118, .null, .null, .int 0, .int 0, .int 0, .null, .null, .null, .int 0, .null, .null, .null, .null, .int 0, .null, .null, .null, .int 0, .int 0, .int 0, .int 0, .int 0, .null, .null, .null, .null, .null, .null, .null, .null, .null, .int 0, .null, .int 0, .null, .int 0, .null, .null, .null, .int 0, .int 0, .null, .null, .null, .null, .null, .int 0, .int 0, .int 0, .null, .int 0, .null, .int 0, .null, .null, .null, .null, .int 0, .int 0, .null, .int 0, .null, .int 0, .null, .null, .null, .null, .null, .int 0, .null, .null, .null, .int 0, .null, .null, .null, .null, .null, .int 0, .null, .null, .null, .null] := by rw [efs_119, efs_117, efs_115, efs_113, efs_111, efs_109, efs_107, efs_105, efs_103, efs_101, efs_99, efs_97, el_95]; rfl
  clear efs_97 efs_99 efs_101 efs_103 efs_105 efs_107 efs_109 efs_111 efs_113 efs_115 efs_117 efs_119 el_95
  have hP_466 := hP_464.sub (ws' := [(h0, .inr (12, fs_119)), (q1, .inl (cI, 4000, (.inl (fun _ => 0)))), (q3, .inl (cI, 6, (.inl (fun _ => 0)))), (q5, .inl (cI, 49152, (.inl (fun _ => 0)))), (q7, .inl (cZ, 768, (.inl (fun _ => 0))))]) [0, 1, 2, 3, 4] rfl
  clear hP_464
  have hD_467 := hD_465.sub (ws' := [(h0, .inr (12, fs_119)), (q1, .inl (cI, 4000, (.inl (fun _ => 0)))), (q3, .inl (cI, 6, (.inl (fun _ => 0)))), (q5, .inl (cI, 49152, (.inl (fun _ => 0)))), (q7, .inl (cZ, 768, (.inl (fun _ => 0))))]) [0, 1, 2, 3, 4] (by decide) rfl
  clear hD_465
  refine lv_aload_n hx hb dX12_init_507 rfl (lv_at hl 0 rfl) ?_
  refine lv_sipush (v := 900) hx hb dX12_init_508 (by decide) ?_
  refine nw_arr (atype := .int) (N' := 900) (a0 := (900, (.inl (fun _ => 0)))) hx hb (hts (.arrayClass .int) (List.mem_of_getElem? (i := 4) rfl)) rfl hK 0 (cI := cI) rfl hP_466 hD_467 hS_463 hA (fun _ => rfl) (by decide) (by decide) (by decide) (Nat.le_of_ble_eq_true rfl) (Nat.le_of_ble_eq_true rfl) dX12_init_511 (fun q120 H_468 hP_468 hD_468 hS_468 => ?_)
  clear hP_466 hD_467 hS_463
  have hP_469 : va_P (dC, dI) vwCl [(h0, .inr (12, fs_119)), (q1, .inl (cI, 4000, (.inl (fun _ => 0)))), (q3, .inl (cI, 6, (.inl (fun _ => 0)))), (q5, .inl (cI, 49152, (.inl (fun _ => 0)))), (q7, .inl (cZ, 768, (.inl (fun _ => 0)))), (q120, .inl (cI, 900, (.inl (fun _ => 0))))] H_468 := hP_468
  clear hP_468
  have hD_470 : va_D A [(h0, .inr (12, fs_119)), (q1, .inl (cI, 4000, (.inl (fun _ => 0)))), (q3, .inl (cI, 6, (.inl (fun _ => 0)))), (q5, .inl (cI, 49152, (.inl (fun _ => 0)))), (q7, .inl (cZ, 768, (.inl (fun _ => 0)))), (q120, .inl (cI, 900, (.inl (fun _ => 0))))] := hD_468
  clear hD_468
  refine W.widen (k := 60) (n := 667888) (by decide) (by decide) ?_
  refine va_putF (D := (dC, dI)) (ci := 12) (v := .ref q120) (ty := .array (.int)) (C := RX12) (T := TX12) (N := 172) hx hb hts inq_X12_init_c12 tyX12 tyX12_ok nmX12 hown hK hP_469 hD_470 hS_468 0 rfl rfl 89 (by decide) (hts (.fieldLink RX12 197 "DiskEvidenceModel" "sourceOf" "[I") (List.mem_of_getElem? (i := 71) rfl)) (fun _ h9 => h9) rfl hin rfl (by decide +kernel) rfl rfl (by rw [hfl_119]; decide) dX12_init_513 (fun H_471 locs_471 hP_471 hD_471 hS_471 => ?_)
  clear hP_469 hD_470 hS_468
  have hP_472 : va_P (dC, dI) vwCl [(h0, .inr (12, (fs_119.set 89 (.ref q120)))), (q1, .inl (cI, 4000, (.inl (fun _ => 0)))), (q3, .inl (cI, 6, (.inl (fun _ => 0)))), (q5, .inl (cI, 49152, (.inl (fun _ => 0)))), (q7, .inl (cZ, 768, (.inl (fun _ => 0)))), (q120, .inl (cI, 900, (.inl (fun _ => 0))))] H_471 := hP_471
  clear hP_471
  have hD_473 : va_D A [(h0, .inr (12, (fs_119.set 89 (.ref q120)))), (q1, .inl (cI, 4000, (.inl (fun _ => 0)))), (q3, .inl (cI, 6, (.inl (fun _ => 0)))), (q5, .inl (cI, 49152, (.inl (fun _ => 0)))), (q7, .inl (cZ, 768, (.inl (fun _ => 0)))), (q120, .inl (cI, 900, (.inl (fun _ => 0))))] := hD_471
  clear hD_471
  obtain ⟨fs_121, efs_121⟩ : ∃ y, y = (fs_119.set 89 (.ref q120)) := ⟨_, rfl⟩
  rw [← efs_121] at hP_472 hD_473
  have hfl_121 : fs_121.length = 172 := by rw [efs_121, List.length_set]; exact hfl_119
  clear hfl_119
  have hP_474 := hP_472.sub (ws' := [(h0, .inr (12, fs_121)), (q1, .inl (cI, 4000, (.inl (fun _ => 0)))), (q3, .inl (cI, 6, (.inl (fun _ => 0)))), (q5, .inl (cI, 49152, (.inl (fun _ => 0)))), (q7, .inl (cZ, 768, (.inl (fun _ => 0))))]) [0, 1, 2, 3, 4] rfl
  clear hP_472
  have hD_475 := hD_473.sub (ws' := [(h0, .inr (12, fs_121)), (q1, .inl (cI, 4000, (.inl (fun _ => 0)))), (q3, .inl (cI, 6, (.inl (fun _ => 0)))), (q5, .inl (cI, 49152, (.inl (fun _ => 0)))), (q7, .inl (cZ, 768, (.inl (fun _ => 0))))]) [0, 1, 2, 3, 4] (by decide) rfl
  clear hD_473
  refine lv_aload_n hx hb dX12_init_516 rfl (lv_at hl 0 rfl) ?_
  refine lv_sipush (v := 900) hx hb dX12_init_517 (by decide) ?_
  refine nw_arr (atype := .int) (N' := 900) (a0 := (900, (.inl (fun _ => 0)))) hx hb (hts (.arrayClass .int) (List.mem_of_getElem? (i := 4) rfl)) rfl hK 0 (cI := cI) rfl hP_474 hD_475 hS_471 hA (fun _ => rfl) (by decide) (by decide) (by decide) (Nat.le_of_ble_eq_true rfl) (Nat.le_of_ble_eq_true rfl) dX12_init_520 (fun q122 H_476 hP_476 hD_476 hS_476 => ?_)
  clear hP_474 hD_475 hS_471
  have hP_477 : va_P (dC, dI) vwCl [(h0, .inr (12, fs_121)), (q1, .inl (cI, 4000, (.inl (fun _ => 0)))), (q3, .inl (cI, 6, (.inl (fun _ => 0)))), (q5, .inl (cI, 49152, (.inl (fun _ => 0)))), (q7, .inl (cZ, 768, (.inl (fun _ => 0)))), (q122, .inl (cI, 900, (.inl (fun _ => 0))))] H_476 := hP_476
  clear hP_476
  have hD_478 : va_D A [(h0, .inr (12, fs_121)), (q1, .inl (cI, 4000, (.inl (fun _ => 0)))), (q3, .inl (cI, 6, (.inl (fun _ => 0)))), (q5, .inl (cI, 49152, (.inl (fun _ => 0)))), (q7, .inl (cZ, 768, (.inl (fun _ => 0)))), (q122, .inl (cI, 900, (.inl (fun _ => 0))))] := hD_476
  clear hD_476
  refine W.widen (k := 61) (n := 668788) (by decide) (by decide) ?_
  refine va_putF (D := (dC, dI)) (ci := 12) (v := .ref q122) (ty := .array (.int)) (C := RX12) (T := TX12) (N := 172) hx hb hts inq_X12_init_c12 tyX12 tyX12_ok nmX12 hown hK hP_477 hD_478 hS_476 0 rfl rfl 90 (by decide) (hts (.fieldLink RX12 200 "DiskEvidenceModel" "sourceFrom" "[I") (List.mem_of_getElem? (i := 72) rfl)) (fun _ h9 => h9) rfl hin rfl (by decide +kernel) rfl rfl (by rw [hfl_121]; decide) dX12_init_522 (fun H_479 locs_479 hP_479 hD_479 hS_479 => ?_)
  clear hP_477 hD_478 hS_476
  have hP_480 : va_P (dC, dI) vwCl [(h0, .inr (12, (fs_121.set 90 (.ref q122)))), (q1, .inl (cI, 4000, (.inl (fun _ => 0)))), (q3, .inl (cI, 6, (.inl (fun _ => 0)))), (q5, .inl (cI, 49152, (.inl (fun _ => 0)))), (q7, .inl (cZ, 768, (.inl (fun _ => 0)))), (q122, .inl (cI, 900, (.inl (fun _ => 0))))] H_479 := hP_479
  clear hP_479
  have hD_481 : va_D A [(h0, .inr (12, (fs_121.set 90 (.ref q122)))), (q1, .inl (cI, 4000, (.inl (fun _ => 0)))), (q3, .inl (cI, 6, (.inl (fun _ => 0)))), (q5, .inl (cI, 49152, (.inl (fun _ => 0)))), (q7, .inl (cZ, 768, (.inl (fun _ => 0)))), (q122, .inl (cI, 900, (.inl (fun _ => 0))))] := hD_479
  clear hD_479
  obtain ⟨fs_123, efs_123⟩ : ∃ y, y = (fs_121.set 90 (.ref q122)) := ⟨_, rfl⟩
  rw [← efs_123] at hP_480 hD_481
  have hfl_123 : fs_123.length = 172 := by rw [efs_123, List.length_set]; exact hfl_121
  clear hfl_121
  have hP_482 := hP_480.sub (ws' := [(h0, .inr (12, fs_123)), (q1, .inl (cI, 4000, (.inl (fun _ => 0)))), (q3, .inl (cI, 6, (.inl (fun _ => 0)))), (q5, .inl (cI, 49152, (.inl (fun _ => 0)))), (q7, .inl (cZ, 768, (.inl (fun _ => 0))))]) [0, 1, 2, 3, 4] rfl
  clear hP_480
  have hD_483 := hD_481.sub (ws' := [(h0, .inr (12, fs_123)), (q1, .inl (cI, 4000, (.inl (fun _ => 0)))), (q3, .inl (cI, 6, (.inl (fun _ => 0)))), (q5, .inl (cI, 49152, (.inl (fun _ => 0)))), (q7, .inl (cZ, 768, (.inl (fun _ => 0))))]) [0, 1, 2, 3, 4] (by decide) rfl
  clear hD_481
  refine lv_aload_n hx hb dX12_init_525 rfl (lv_at hl 0 rfl) ?_
  refine lv_bipush (v := 8) hx hb dX12_init_526 (by decide) ?_
  refine nw_arr (atype := .int) (N' := 8) (a0 := (8, (.inl (fun _ => 0)))) hx hb (hts (.arrayClass .int) (List.mem_of_getElem? (i := 4) rfl)) rfl hK 0 (cI := cI) rfl hP_482 hD_483 hS_479 hA (fun _ => rfl) (by decide) (by decide) (by decide) (Nat.le_of_ble_eq_true rfl) (Nat.le_of_ble_eq_true rfl) dX12_init_528 (fun q124 H_484 hP_484 hD_484 hS_484 => ?_)
  clear hP_482 hD_483 hS_479
  have hP_485 : va_P (dC, dI) vwCl [(h0, .inr (12, fs_123)), (q1, .inl (cI, 4000, (.inl (fun _ => 0)))), (q3, .inl (cI, 6, (.inl (fun _ => 0)))), (q5, .inl (cI, 49152, (.inl (fun _ => 0)))), (q7, .inl (cZ, 768, (.inl (fun _ => 0)))), (q124, .inl (cI, 8, (.inl (fun _ => 0))))] H_484 := hP_484
  clear hP_484
  have hD_486 : va_D A [(h0, .inr (12, fs_123)), (q1, .inl (cI, 4000, (.inl (fun _ => 0)))), (q3, .inl (cI, 6, (.inl (fun _ => 0)))), (q5, .inl (cI, 49152, (.inl (fun _ => 0)))), (q7, .inl (cZ, 768, (.inl (fun _ => 0)))), (q124, .inl (cI, 8, (.inl (fun _ => 0))))] := hD_484
  clear hD_484
  refine W.widen (k := 62) (n := 668796) (by decide) (by decide) ?_
  refine va_putF (D := (dC, dI)) (ci := 12) (v := .ref q124) (ty := .array (.int)) (C := RX12) (T := TX12) (N := 172) hx hb hts inq_X12_init_c12 tyX12 tyX12_ok nmX12 hown hK hP_485 hD_486 hS_484 0 rfl rfl 94 (by decide) (hts (.fieldLink RX12 203 "DiskEvidenceModel" "walkFile" "[I") (List.mem_of_getElem? (i := 73) rfl)) (fun _ h9 => h9) rfl hin rfl (by decide +kernel) rfl rfl (by rw [hfl_123]; decide) dX12_init_530 (fun H_487 locs_487 hP_487 hD_487 hS_487 => ?_)
  clear hP_485 hD_486 hS_484
  have hP_488 : va_P (dC, dI) vwCl [(h0, .inr (12, (fs_123.set 94 (.ref q124)))), (q1, .inl (cI, 4000, (.inl (fun _ => 0)))), (q3, .inl (cI, 6, (.inl (fun _ => 0)))), (q5, .inl (cI, 49152, (.inl (fun _ => 0)))), (q7, .inl (cZ, 768, (.inl (fun _ => 0)))), (q124, .inl (cI, 8, (.inl (fun _ => 0))))] H_487 := hP_487
  clear hP_487
  have hD_489 : va_D A [(h0, .inr (12, (fs_123.set 94 (.ref q124)))), (q1, .inl (cI, 4000, (.inl (fun _ => 0)))), (q3, .inl (cI, 6, (.inl (fun _ => 0)))), (q5, .inl (cI, 49152, (.inl (fun _ => 0)))), (q7, .inl (cZ, 768, (.inl (fun _ => 0)))), (q124, .inl (cI, 8, (.inl (fun _ => 0))))] := hD_487
  clear hD_487
  obtain ⟨fs_125, efs_125⟩ : ∃ y, y = (fs_123.set 94 (.ref q124)) := ⟨_, rfl⟩
  rw [← efs_125] at hP_488 hD_489
  have hfl_125 : fs_125.length = 172 := by rw [efs_125, List.length_set]; exact hfl_123
  clear hfl_123
  have hP_490 := hP_488.sub (ws' := [(h0, .inr (12, fs_125)), (q1, .inl (cI, 4000, (.inl (fun _ => 0)))), (q3, .inl (cI, 6, (.inl (fun _ => 0)))), (q5, .inl (cI, 49152, (.inl (fun _ => 0)))), (q7, .inl (cZ, 768, (.inl (fun _ => 0))))]) [0, 1, 2, 3, 4] rfl
  clear hP_488
  have hD_491 := hD_489.sub (ws' := [(h0, .inr (12, fs_125)), (q1, .inl (cI, 4000, (.inl (fun _ => 0)))), (q3, .inl (cI, 6, (.inl (fun _ => 0)))), (q5, .inl (cI, 49152, (.inl (fun _ => 0)))), (q7, .inl (cZ, 768, (.inl (fun _ => 0))))]) [0, 1, 2, 3, 4] (by decide) rfl
  clear hD_489
  refine lv_aload_n hx hb dX12_init_533 rfl (lv_at hl 0 rfl) ?_
  refine lv_bipush (v := 8) hx hb dX12_init_534 (by decide) ?_
  refine nw_arr (atype := .int) (N' := 8) (a0 := (8, (.inl (fun _ => 0)))) hx hb (hts (.arrayClass .int) (List.mem_of_getElem? (i := 4) rfl)) rfl hK 0 (cI := cI) rfl hP_490 hD_491 hS_487 hA (fun _ => rfl) (by decide) (by decide) (by decide) (Nat.le_of_ble_eq_true rfl) (Nat.le_of_ble_eq_true rfl) dX12_init_536 (fun q126 H_492 hP_492 hD_492 hS_492 => ?_)
  clear hP_490 hD_491 hS_487
  have hP_493 : va_P (dC, dI) vwCl [(h0, .inr (12, fs_125)), (q1, .inl (cI, 4000, (.inl (fun _ => 0)))), (q3, .inl (cI, 6, (.inl (fun _ => 0)))), (q5, .inl (cI, 49152, (.inl (fun _ => 0)))), (q7, .inl (cZ, 768, (.inl (fun _ => 0)))), (q126, .inl (cI, 8, (.inl (fun _ => 0))))] H_492 := hP_492
  clear hP_492
  have hD_494 : va_D A [(h0, .inr (12, fs_125)), (q1, .inl (cI, 4000, (.inl (fun _ => 0)))), (q3, .inl (cI, 6, (.inl (fun _ => 0)))), (q5, .inl (cI, 49152, (.inl (fun _ => 0)))), (q7, .inl (cZ, 768, (.inl (fun _ => 0)))), (q126, .inl (cI, 8, (.inl (fun _ => 0))))] := hD_492
  clear hD_492
  refine W.widen (k := 63) (n := 668804) (by decide) (by decide) ?_
  refine va_putF (D := (dC, dI)) (ci := 12) (v := .ref q126) (ty := .array (.int)) (C := RX12) (T := TX12) (N := 172) hx hb hts inq_X12_init_c12 tyX12 tyX12_ok nmX12 hown hK hP_493 hD_494 hS_492 0 rfl rfl 95 (by decide) (hts (.fieldLink RX12 206 "DiskEvidenceModel" "walkRow" "[I") (List.mem_of_getElem? (i := 74) rfl)) (fun _ h9 => h9) rfl hin rfl (by decide +kernel) rfl rfl (by rw [hfl_125]; decide) dX12_init_538 (fun H_495 locs_495 hP_495 hD_495 hS_495 => ?_)
  clear hP_493 hD_494 hS_492
  have hP_496 : va_P (dC, dI) vwCl [(h0, .inr (12, (fs_125.set 95 (.ref q126)))), (q1, .inl (cI, 4000, (.inl (fun _ => 0)))), (q3, .inl (cI, 6, (.inl (fun _ => 0)))), (q5, .inl (cI, 49152, (.inl (fun _ => 0)))), (q7, .inl (cZ, 768, (.inl (fun _ => 0)))), (q126, .inl (cI, 8, (.inl (fun _ => 0))))] H_495 := hP_495
  clear hP_495
  have hD_497 : va_D A [(h0, .inr (12, (fs_125.set 95 (.ref q126)))), (q1, .inl (cI, 4000, (.inl (fun _ => 0)))), (q3, .inl (cI, 6, (.inl (fun _ => 0)))), (q5, .inl (cI, 49152, (.inl (fun _ => 0)))), (q7, .inl (cZ, 768, (.inl (fun _ => 0)))), (q126, .inl (cI, 8, (.inl (fun _ => 0))))] := hD_495
  clear hD_495
  obtain ⟨fs_127, efs_127⟩ : ∃ y, y = (fs_125.set 95 (.ref q126)) := ⟨_, rfl⟩
  rw [← efs_127] at hP_496 hD_497
  have hfl_127 : fs_127.length = 172 := by rw [efs_127, List.length_set]; exact hfl_125
  clear hfl_125
  have hP_498 := hP_496.sub (ws' := [(h0, .inr (12, fs_127)), (q1, .inl (cI, 4000, (.inl (fun _ => 0)))), (q3, .inl (cI, 6, (.inl (fun _ => 0)))), (q5, .inl (cI, 49152, (.inl (fun _ => 0)))), (q7, .inl (cZ, 768, (.inl (fun _ => 0))))]) [0, 1, 2, 3, 4] rfl
  clear hP_496
  have hD_499 := hD_497.sub (ws' := [(h0, .inr (12, fs_127)), (q1, .inl (cI, 4000, (.inl (fun _ => 0)))), (q3, .inl (cI, 6, (.inl (fun _ => 0)))), (q5, .inl (cI, 49152, (.inl (fun _ => 0)))), (q7, .inl (cZ, 768, (.inl (fun _ => 0))))]) [0, 1, 2, 3, 4] (by decide) rfl
  clear hD_497
  refine lv_aload_n hx hb dX12_init_541 rfl (lv_at hl 0 rfl) ?_
  refine lv_bipush (v := 8) hx hb dX12_init_542 (by decide) ?_
  refine nw_arr (atype := .int) (N' := 8) (a0 := (8, (.inl (fun _ => 0)))) hx hb (hts (.arrayClass .int) (List.mem_of_getElem? (i := 4) rfl)) rfl hK 0 (cI := cI) rfl hP_498 hD_499 hS_495 hA (fun _ => rfl) (by decide) (by decide) (by decide) (Nat.le_of_ble_eq_true rfl) (Nat.le_of_ble_eq_true rfl) dX12_init_544 (fun q128 H_500 hP_500 hD_500 hS_500 => ?_)
  clear hP_498 hD_499 hS_495
  have hP_501 : va_P (dC, dI) vwCl [(h0, .inr (12, fs_127)), (q1, .inl (cI, 4000, (.inl (fun _ => 0)))), (q3, .inl (cI, 6, (.inl (fun _ => 0)))), (q5, .inl (cI, 49152, (.inl (fun _ => 0)))), (q7, .inl (cZ, 768, (.inl (fun _ => 0)))), (q128, .inl (cI, 8, (.inl (fun _ => 0))))] H_500 := hP_500
  clear hP_500
  have hD_502 : va_D A [(h0, .inr (12, fs_127)), (q1, .inl (cI, 4000, (.inl (fun _ => 0)))), (q3, .inl (cI, 6, (.inl (fun _ => 0)))), (q5, .inl (cI, 49152, (.inl (fun _ => 0)))), (q7, .inl (cZ, 768, (.inl (fun _ => 0)))), (q128, .inl (cI, 8, (.inl (fun _ => 0))))] := hD_500
  clear hD_500
  refine W.widen (k := 64) (n := 668812) (by decide) (by decide) ?_
  refine va_putF (D := (dC, dI)) (ci := 12) (v := .ref q128) (ty := .array (.int)) (C := RX12) (T := TX12) (N := 172) hx hb hts inq_X12_init_c12 tyX12 tyX12_ok nmX12 hown hK hP_501 hD_502 hS_500 0 rfl rfl 96 (by decide) (hts (.fieldLink RX12 209 "DiskEvidenceModel" "walkNode" "[I") (List.mem_of_getElem? (i := 75) rfl)) (fun _ h9 => h9) rfl hin rfl (by decide +kernel) rfl rfl (by rw [hfl_127]; decide) dX12_init_546 (fun H_503 locs_503 hP_503 hD_503 hS_503 => ?_)
  clear hP_501 hD_502 hS_500
  have hP_504 : va_P (dC, dI) vwCl [(h0, .inr (12, (fs_127.set 96 (.ref q128)))), (q1, .inl (cI, 4000, (.inl (fun _ => 0)))), (q3, .inl (cI, 6, (.inl (fun _ => 0)))), (q5, .inl (cI, 49152, (.inl (fun _ => 0)))), (q7, .inl (cZ, 768, (.inl (fun _ => 0)))), (q128, .inl (cI, 8, (.inl (fun _ => 0))))] H_503 := hP_503
  clear hP_503
  have hD_505 : va_D A [(h0, .inr (12, (fs_127.set 96 (.ref q128)))), (q1, .inl (cI, 4000, (.inl (fun _ => 0)))), (q3, .inl (cI, 6, (.inl (fun _ => 0)))), (q5, .inl (cI, 49152, (.inl (fun _ => 0)))), (q7, .inl (cZ, 768, (.inl (fun _ => 0)))), (q128, .inl (cI, 8, (.inl (fun _ => 0))))] := hD_503
  clear hD_503
  obtain ⟨fs_129, efs_129⟩ : ∃ y, y = (fs_127.set 96 (.ref q128)) := ⟨_, rfl⟩
  rw [← efs_129] at hP_504 hD_505
  have hfl_129 : fs_129.length = 172 := by rw [efs_129, List.length_set]; exact hfl_127
  clear hfl_127
  have hP_506 := hP_504.sub (ws' := [(h0, .inr (12, fs_129)), (q1, .inl (cI, 4000, (.inl (fun _ => 0)))), (q3, .inl (cI, 6, (.inl (fun _ => 0)))), (q5, .inl (cI, 49152, (.inl (fun _ => 0)))), (q7, .inl (cZ, 768, (.inl (fun _ => 0))))]) [0, 1, 2, 3, 4] rfl
  clear hP_504
  have hD_507 := hD_505.sub (ws' := [(h0, .inr (12, fs_129)), (q1, .inl (cI, 4000, (.inl (fun _ => 0)))), (q3, .inl (cI, 6, (.inl (fun _ => 0)))), (q5, .inl (cI, 49152, (.inl (fun _ => 0)))), (q7, .inl (cZ, 768, (.inl (fun _ => 0))))]) [0, 1, 2, 3, 4] (by decide) rfl
  clear hD_505
  refine lv_aload_n hx hb dX12_init_549 rfl (lv_at hl 0 rfl) ?_
  refine lv_sipush (v := 600) hx hb dX12_init_550 (by decide) ?_
  refine nw_arr (atype := .int) (N' := 600) (a0 := (600, (.inl (fun _ => 0)))) hx hb (hts (.arrayClass .int) (List.mem_of_getElem? (i := 4) rfl)) rfl hK 0 (cI := cI) rfl hP_506 hD_507 hS_503 hA (fun _ => rfl) (by decide) (by decide) (by decide) (Nat.le_of_ble_eq_true rfl) (Nat.le_of_ble_eq_true rfl) dX12_init_553 (fun q130 H_508 hP_508 hD_508 hS_508 => ?_)
  clear hP_506 hD_507 hS_503
  have hP_509 : va_P (dC, dI) vwCl [(h0, .inr (12, fs_129)), (q1, .inl (cI, 4000, (.inl (fun _ => 0)))), (q3, .inl (cI, 6, (.inl (fun _ => 0)))), (q5, .inl (cI, 49152, (.inl (fun _ => 0)))), (q7, .inl (cZ, 768, (.inl (fun _ => 0)))), (q130, .inl (cI, 600, (.inl (fun _ => 0))))] H_508 := hP_508
  clear hP_508
  have hD_510 : va_D A [(h0, .inr (12, fs_129)), (q1, .inl (cI, 4000, (.inl (fun _ => 0)))), (q3, .inl (cI, 6, (.inl (fun _ => 0)))), (q5, .inl (cI, 49152, (.inl (fun _ => 0)))), (q7, .inl (cZ, 768, (.inl (fun _ => 0)))), (q130, .inl (cI, 600, (.inl (fun _ => 0))))] := hD_508
  clear hD_508
  refine W.widen (k := 65) (n := 669412) (by decide) (by decide) ?_
  refine va_putF (D := (dC, dI)) (ci := 12) (v := .ref q130) (ty := .array (.int)) (C := RX12) (T := TX12) (N := 172) hx hb hts inq_X12_init_c12 tyX12 tyX12_ok nmX12 hown hK hP_509 hD_510 hS_508 0 rfl rfl 98 (by decide) (hts (.fieldLink RX12 212 "DiskEvidenceModel" "erasedRow" "[I") (List.mem_of_getElem? (i := 76) rfl)) (fun _ h9 => h9) rfl hin rfl (by decide +kernel) rfl rfl (by rw [hfl_129]; decide) dX12_init_555 (fun H_511 locs_511 hP_511 hD_511 hS_511 => ?_)
  clear hP_509 hD_510 hS_508
  have hP_512 : va_P (dC, dI) vwCl [(h0, .inr (12, (fs_129.set 98 (.ref q130)))), (q1, .inl (cI, 4000, (.inl (fun _ => 0)))), (q3, .inl (cI, 6, (.inl (fun _ => 0)))), (q5, .inl (cI, 49152, (.inl (fun _ => 0)))), (q7, .inl (cZ, 768, (.inl (fun _ => 0)))), (q130, .inl (cI, 600, (.inl (fun _ => 0))))] H_511 := hP_511
  clear hP_511
  have hD_513 : va_D A [(h0, .inr (12, (fs_129.set 98 (.ref q130)))), (q1, .inl (cI, 4000, (.inl (fun _ => 0)))), (q3, .inl (cI, 6, (.inl (fun _ => 0)))), (q5, .inl (cI, 49152, (.inl (fun _ => 0)))), (q7, .inl (cZ, 768, (.inl (fun _ => 0)))), (q130, .inl (cI, 600, (.inl (fun _ => 0))))] := hD_511
  clear hD_511
  obtain ⟨fs_131, efs_131⟩ : ∃ y, y = (fs_129.set 98 (.ref q130)) := ⟨_, rfl⟩
  rw [← efs_131] at hP_512 hD_513
  have hfl_131 : fs_131.length = 172 := by rw [efs_131, List.length_set]; exact hfl_129
  clear hfl_129
  have hP_514 := hP_512.sub (ws' := [(h0, .inr (12, fs_131)), (q1, .inl (cI, 4000, (.inl (fun _ => 0)))), (q3, .inl (cI, 6, (.inl (fun _ => 0)))), (q5, .inl (cI, 49152, (.inl (fun _ => 0)))), (q7, .inl (cZ, 768, (.inl (fun _ => 0))))]) [0, 1, 2, 3, 4] rfl
  clear hP_512
  have hD_515 := hD_513.sub (ws' := [(h0, .inr (12, fs_131)), (q1, .inl (cI, 4000, (.inl (fun _ => 0)))), (q3, .inl (cI, 6, (.inl (fun _ => 0)))), (q5, .inl (cI, 49152, (.inl (fun _ => 0)))), (q7, .inl (cZ, 768, (.inl (fun _ => 0))))]) [0, 1, 2, 3, 4] (by decide) rfl
  clear hD_513
  refine lv_aload_n hx hb dX12_init_558 rfl (lv_at hl 0 rfl) ?_
  refine lv_sipush (v := 600) hx hb dX12_init_559 (by decide) ?_
  refine nw_arr (atype := .int) (N' := 600) (a0 := (600, (.inl (fun _ => 0)))) hx hb (hts (.arrayClass .int) (List.mem_of_getElem? (i := 4) rfl)) rfl hK 0 (cI := cI) rfl hP_514 hD_515 hS_511 hA (fun _ => rfl) (by decide) (by decide) (by decide) (Nat.le_of_ble_eq_true rfl) (Nat.le_of_ble_eq_true rfl) dX12_init_562 (fun q132 H_516 hP_516 hD_516 hS_516 => ?_)
  clear hP_514 hD_515 hS_511
  have hP_517 : va_P (dC, dI) vwCl [(h0, .inr (12, fs_131)), (q1, .inl (cI, 4000, (.inl (fun _ => 0)))), (q3, .inl (cI, 6, (.inl (fun _ => 0)))), (q5, .inl (cI, 49152, (.inl (fun _ => 0)))), (q7, .inl (cZ, 768, (.inl (fun _ => 0)))), (q132, .inl (cI, 600, (.inl (fun _ => 0))))] H_516 := hP_516
  clear hP_516
  have hD_518 : va_D A [(h0, .inr (12, fs_131)), (q1, .inl (cI, 4000, (.inl (fun _ => 0)))), (q3, .inl (cI, 6, (.inl (fun _ => 0)))), (q5, .inl (cI, 49152, (.inl (fun _ => 0)))), (q7, .inl (cZ, 768, (.inl (fun _ => 0)))), (q132, .inl (cI, 600, (.inl (fun _ => 0))))] := hD_516
  clear hD_516
  refine W.widen (k := 66) (n := 670012) (by decide) (by decide) ?_
  refine va_putF (D := (dC, dI)) (ci := 12) (v := .ref q132) (ty := .array (.int)) (C := RX12) (T := TX12) (N := 172) hx hb hts inq_X12_init_c12 tyX12 tyX12_ok nmX12 hown hK hP_517 hD_518 hS_516 0 rfl rfl 99 (by decide) (hts (.fieldLink RX12 215 "DiskEvidenceModel" "erasedParent" "[I") (List.mem_of_getElem? (i := 77) rfl)) (fun _ h9 => h9) rfl hin rfl (by decide +kernel) rfl rfl (by rw [hfl_131]; decide) dX12_init_564 (fun H_519 locs_519 hP_519 hD_519 hS_519 => ?_)
  clear hP_517 hD_518 hS_516
  have hP_520 : va_P (dC, dI) vwCl [(h0, .inr (12, (fs_131.set 99 (.ref q132)))), (q1, .inl (cI, 4000, (.inl (fun _ => 0)))), (q3, .inl (cI, 6, (.inl (fun _ => 0)))), (q5, .inl (cI, 49152, (.inl (fun _ => 0)))), (q7, .inl (cZ, 768, (.inl (fun _ => 0)))), (q132, .inl (cI, 600, (.inl (fun _ => 0))))] H_519 := hP_519
  clear hP_519
  have hD_521 : va_D A [(h0, .inr (12, (fs_131.set 99 (.ref q132)))), (q1, .inl (cI, 4000, (.inl (fun _ => 0)))), (q3, .inl (cI, 6, (.inl (fun _ => 0)))), (q5, .inl (cI, 49152, (.inl (fun _ => 0)))), (q7, .inl (cZ, 768, (.inl (fun _ => 0)))), (q132, .inl (cI, 600, (.inl (fun _ => 0))))] := hD_519
  clear hD_519
  obtain ⟨fs_133, efs_133⟩ : ∃ y, y = (fs_131.set 99 (.ref q132)) := ⟨_, rfl⟩
  rw [← efs_133] at hP_520 hD_521
  have hfl_133 : fs_133.length = 172 := by rw [efs_133, List.length_set]; exact hfl_131
  clear hfl_131
  have hP_522 := hP_520.sub (ws' := [(h0, .inr (12, fs_133)), (q1, .inl (cI, 4000, (.inl (fun _ => 0)))), (q3, .inl (cI, 6, (.inl (fun _ => 0)))), (q5, .inl (cI, 49152, (.inl (fun _ => 0)))), (q7, .inl (cZ, 768, (.inl (fun _ => 0))))]) [0, 1, 2, 3, 4] rfl
  clear hP_520
  have hD_523 := hD_521.sub (ws' := [(h0, .inr (12, fs_133)), (q1, .inl (cI, 4000, (.inl (fun _ => 0)))), (q3, .inl (cI, 6, (.inl (fun _ => 0)))), (q5, .inl (cI, 49152, (.inl (fun _ => 0)))), (q7, .inl (cZ, 768, (.inl (fun _ => 0))))]) [0, 1, 2, 3, 4] (by decide) rfl
  clear hD_521
  refine lv_aload_n hx hb dX12_init_567 rfl (lv_at hl 0 rfl) ?_
  refine lv_sipush (v := 600) hx hb dX12_init_568 (by decide) ?_
  refine nw_arr (atype := .int) (N' := 600) (a0 := (600, (.inl (fun _ => 0)))) hx hb (hts (.arrayClass .int) (List.mem_of_getElem? (i := 4) rfl)) rfl hK 0 (cI := cI) rfl hP_522 hD_523 hS_519 hA (fun _ => rfl) (by decide) (by decide) (by decide) (Nat.le_of_ble_eq_true rfl) (Nat.le_of_ble_eq_true rfl) dX12_init_571 (fun q134 H_524 hP_524 hD_524 hS_524 => ?_)
  clear hP_522 hD_523 hS_519
  have hP_525 : va_P (dC, dI) vwCl [(h0, .inr (12, fs_133)), (q1, .inl (cI, 4000, (.inl (fun _ => 0)))), (q3, .inl (cI, 6, (.inl (fun _ => 0)))), (q5, .inl (cI, 49152, (.inl (fun _ => 0)))), (q7, .inl (cZ, 768, (.inl (fun _ => 0)))), (q134, .inl (cI, 600, (.inl (fun _ => 0))))] H_524 := hP_524
  clear hP_524
  have hD_526 : va_D A [(h0, .inr (12, fs_133)), (q1, .inl (cI, 4000, (.inl (fun _ => 0)))), (q3, .inl (cI, 6, (.inl (fun _ => 0)))), (q5, .inl (cI, 49152, (.inl (fun _ => 0)))), (q7, .inl (cZ, 768, (.inl (fun _ => 0)))), (q134, .inl (cI, 600, (.inl (fun _ => 0))))] := hD_524
  clear hD_524
  refine W.widen (k := 67) (n := 670612) (by decide) (by decide) ?_
  refine va_putF (D := (dC, dI)) (ci := 12) (v := .ref q134) (ty := .array (.int)) (C := RX12) (T := TX12) (N := 172) hx hb hts inq_X12_init_c12 tyX12 tyX12_ok nmX12 hown hK hP_525 hD_526 hS_524 0 rfl rfl 100 (by decide) (hts (.fieldLink RX12 218 "DiskEvidenceModel" "erasedDepth" "[I") (List.mem_of_getElem? (i := 78) rfl)) (fun _ h9 => h9) rfl hin rfl (by decide +kernel) rfl rfl (by rw [hfl_133]; decide) dX12_init_573 (fun H_527 locs_527 hP_527 hD_527 hS_527 => ?_)
  clear hP_525 hD_526 hS_524
  have hP_528 : va_P (dC, dI) vwCl [(h0, .inr (12, (fs_133.set 100 (.ref q134)))), (q1, .inl (cI, 4000, (.inl (fun _ => 0)))), (q3, .inl (cI, 6, (.inl (fun _ => 0)))), (q5, .inl (cI, 49152, (.inl (fun _ => 0)))), (q7, .inl (cZ, 768, (.inl (fun _ => 0)))), (q134, .inl (cI, 600, (.inl (fun _ => 0))))] H_527 := hP_527
  clear hP_527
  have hD_529 : va_D A [(h0, .inr (12, (fs_133.set 100 (.ref q134)))), (q1, .inl (cI, 4000, (.inl (fun _ => 0)))), (q3, .inl (cI, 6, (.inl (fun _ => 0)))), (q5, .inl (cI, 49152, (.inl (fun _ => 0)))), (q7, .inl (cZ, 768, (.inl (fun _ => 0)))), (q134, .inl (cI, 600, (.inl (fun _ => 0))))] := hD_527
  clear hD_527
  obtain ⟨fs_135, efs_135⟩ : ∃ y, y = (fs_133.set 100 (.ref q134)) := ⟨_, rfl⟩
  rw [← efs_135] at hP_528 hD_529
  have hfl_135 : fs_135.length = 172 := by rw [efs_135, List.length_set]; exact hfl_133
  clear hfl_133
  have hP_530 := hP_528.sub (ws' := [(h0, .inr (12, fs_135)), (q1, .inl (cI, 4000, (.inl (fun _ => 0)))), (q3, .inl (cI, 6, (.inl (fun _ => 0)))), (q5, .inl (cI, 49152, (.inl (fun _ => 0)))), (q7, .inl (cZ, 768, (.inl (fun _ => 0))))]) [0, 1, 2, 3, 4] rfl
  clear hP_528
  have hD_531 := hD_529.sub (ws' := [(h0, .inr (12, fs_135)), (q1, .inl (cI, 4000, (.inl (fun _ => 0)))), (q3, .inl (cI, 6, (.inl (fun _ => 0)))), (q5, .inl (cI, 49152, (.inl (fun _ => 0)))), (q7, .inl (cZ, 768, (.inl (fun _ => 0))))]) [0, 1, 2, 3, 4] (by decide) rfl
  clear hD_529
  refine lv_aload_n hx hb dX12_init_576 rfl (lv_at hl 0 rfl) ?_
  refine lv_bipush (v := 66) hx hb dX12_init_577 (by decide) ?_
  refine nw_arr (atype := .boolean) (N' := 66) (a0 := (66, (.inl (fun _ => 0)))) hx hb (hts (.arrayClass .boolean) (List.mem_of_getElem? (i := 9) rfl)) rfl hK 2 (cI := cZ) rfl hP_530 hD_531 hS_527 hA (fun _ => rfl) (by decide) (by decide) (by decide) (Nat.le_of_ble_eq_true rfl) (Nat.le_of_ble_eq_true rfl) dX12_init_579 (fun q136 H_532 hP_532 hD_532 hS_532 => ?_)
  clear hP_530 hD_531 hS_527
  have hP_533 : va_P (dC, dI) vwCl [(h0, .inr (12, fs_135)), (q1, .inl (cI, 4000, (.inl (fun _ => 0)))), (q3, .inl (cI, 6, (.inl (fun _ => 0)))), (q5, .inl (cI, 49152, (.inl (fun _ => 0)))), (q7, .inl (cZ, 768, (.inl (fun _ => 0)))), (q136, .inl (cZ, 66, (.inl (fun _ => 0))))] H_532 := hP_532
  clear hP_532
  have hD_534 : va_D A [(h0, .inr (12, fs_135)), (q1, .inl (cI, 4000, (.inl (fun _ => 0)))), (q3, .inl (cI, 6, (.inl (fun _ => 0)))), (q5, .inl (cI, 49152, (.inl (fun _ => 0)))), (q7, .inl (cZ, 768, (.inl (fun _ => 0)))), (q136, .inl (cZ, 66, (.inl (fun _ => 0))))] := hD_532
  clear hD_532
  refine W.widen (k := 68) (n := 670678) (by decide) (by decide) ?_
  refine va_putF (D := (dC, dI)) (ci := 12) (v := .ref q136) (ty := .array (.boolean)) (C := RX12) (T := TX12) (N := 172) hx hb hts inq_X12_init_c12 tyX12 tyX12_ok nmX12 hown hK hP_533 hD_534 hS_532 0 rfl rfl 101 (by decide) (hts (.fieldLink RX12 221 "DiskEvidenceModel" "isWalked" "[Z") (List.mem_of_getElem? (i := 79) rfl)) (fun _ h9 => h9) rfl hin rfl (by decide +kernel) rfl rfl (by rw [hfl_135]; decide) dX12_init_581 (fun H_535 locs_535 hP_535 hD_535 hS_535 => ?_)
  clear hP_533 hD_534 hS_532
  have hP_536 : va_P (dC, dI) vwCl [(h0, .inr (12, (fs_135.set 101 (.ref q136)))), (q1, .inl (cI, 4000, (.inl (fun _ => 0)))), (q3, .inl (cI, 6, (.inl (fun _ => 0)))), (q5, .inl (cI, 49152, (.inl (fun _ => 0)))), (q7, .inl (cZ, 768, (.inl (fun _ => 0)))), (q136, .inl (cZ, 66, (.inl (fun _ => 0))))] H_535 := hP_535
  clear hP_535
  have hD_537 : va_D A [(h0, .inr (12, (fs_135.set 101 (.ref q136)))), (q1, .inl (cI, 4000, (.inl (fun _ => 0)))), (q3, .inl (cI, 6, (.inl (fun _ => 0)))), (q5, .inl (cI, 49152, (.inl (fun _ => 0)))), (q7, .inl (cZ, 768, (.inl (fun _ => 0)))), (q136, .inl (cZ, 66, (.inl (fun _ => 0))))] := hD_535
  clear hD_535
  obtain ⟨fs_137, efs_137⟩ : ∃ y, y = (fs_135.set 101 (.ref q136)) := ⟨_, rfl⟩
  rw [← efs_137] at hP_536 hD_537
  have hfl_137 : fs_137.length = 172 := by rw [efs_137, List.length_set]; exact hfl_135
  clear hfl_135
  have hP_538 := hP_536.sub (ws' := [(h0, .inr (12, fs_137)), (q1, .inl (cI, 4000, (.inl (fun _ => 0)))), (q3, .inl (cI, 6, (.inl (fun _ => 0)))), (q5, .inl (cI, 49152, (.inl (fun _ => 0)))), (q7, .inl (cZ, 768, (.inl (fun _ => 0))))]) [0, 1, 2, 3, 4] rfl
  clear hP_536
  have hD_539 := hD_537.sub (ws' := [(h0, .inr (12, fs_137)), (q1, .inl (cI, 4000, (.inl (fun _ => 0)))), (q3, .inl (cI, 6, (.inl (fun _ => 0)))), (q5, .inl (cI, 49152, (.inl (fun _ => 0)))), (q7, .inl (cZ, 768, (.inl (fun _ => 0))))]) [0, 1, 2, 3, 4] (by decide) rfl
  clear hD_537
  refine lv_aload_n hx hb dX12_init_584 rfl (lv_at hl 0 rfl) ?_
  refine lv_sipush (v := 256) hx hb dX12_init_585 (by decide) ?_
  refine nw_arr (atype := .int) (N' := 256) (a0 := (256, (.inl (fun _ => 0)))) hx hb (hts (.arrayClass .int) (List.mem_of_getElem? (i := 4) rfl)) rfl hK 0 (cI := cI) rfl hP_538 hD_539 hS_535 hA (fun _ => rfl) (by decide) (by decide) (by decide) (Nat.le_of_ble_eq_true rfl) (Nat.le_of_ble_eq_true rfl) dX12_init_588 (fun q138 H_540 hP_540 hD_540 hS_540 => ?_)
  clear hP_538 hD_539 hS_535
  have hP_541 : va_P (dC, dI) vwCl [(h0, .inr (12, fs_137)), (q1, .inl (cI, 4000, (.inl (fun _ => 0)))), (q3, .inl (cI, 6, (.inl (fun _ => 0)))), (q5, .inl (cI, 49152, (.inl (fun _ => 0)))), (q7, .inl (cZ, 768, (.inl (fun _ => 0)))), (q138, .inl (cI, 256, (.inl (fun _ => 0))))] H_540 := hP_540
  clear hP_540
  have hD_542 : va_D A [(h0, .inr (12, fs_137)), (q1, .inl (cI, 4000, (.inl (fun _ => 0)))), (q3, .inl (cI, 6, (.inl (fun _ => 0)))), (q5, .inl (cI, 49152, (.inl (fun _ => 0)))), (q7, .inl (cZ, 768, (.inl (fun _ => 0)))), (q138, .inl (cI, 256, (.inl (fun _ => 0))))] := hD_540
  clear hD_540
  refine W.widen (k := 69) (n := 670934) (by decide) (by decide) ?_
  refine va_putF (D := (dC, dI)) (ci := 12) (v := .ref q138) (ty := .array (.int)) (C := RX12) (T := TX12) (N := 172) hx hb hts inq_X12_init_c12 tyX12 tyX12_ok nmX12 hown hK hP_541 hD_542 hS_540 0 rfl rfl 103 (by decide) (hts (.fieldLink RX12 224 "DiskEvidenceModel" "entryAt" "[I") (List.mem_of_getElem? (i := 80) rfl)) (fun _ h9 => h9) rfl hin rfl (by decide +kernel) rfl rfl (by rw [hfl_137]; decide) dX12_init_590 (fun H_543 locs_543 hP_543 hD_543 hS_543 => ?_)
  clear hP_541 hD_542 hS_540
  have hP_544 : va_P (dC, dI) vwCl [(h0, .inr (12, (fs_137.set 103 (.ref q138)))), (q1, .inl (cI, 4000, (.inl (fun _ => 0)))), (q3, .inl (cI, 6, (.inl (fun _ => 0)))), (q5, .inl (cI, 49152, (.inl (fun _ => 0)))), (q7, .inl (cZ, 768, (.inl (fun _ => 0)))), (q138, .inl (cI, 256, (.inl (fun _ => 0))))] H_543 := hP_543
  clear hP_543
  have hD_545 : va_D A [(h0, .inr (12, (fs_137.set 103 (.ref q138)))), (q1, .inl (cI, 4000, (.inl (fun _ => 0)))), (q3, .inl (cI, 6, (.inl (fun _ => 0)))), (q5, .inl (cI, 49152, (.inl (fun _ => 0)))), (q7, .inl (cZ, 768, (.inl (fun _ => 0)))), (q138, .inl (cI, 256, (.inl (fun _ => 0))))] := hD_543
  clear hD_543
  obtain ⟨fs_139, efs_139⟩ : ∃ y, y = (fs_137.set 103 (.ref q138)) := ⟨_, rfl⟩
  rw [← efs_139] at hP_544 hD_545
  have hfl_139 : fs_139.length = 172 := by rw [efs_139, List.length_set]; exact hfl_137
  clear hfl_137
  have hP_546 := hP_544.sub (ws' := [(h0, .inr (12, fs_139)), (q1, .inl (cI, 4000, (.inl (fun _ => 0)))), (q3, .inl (cI, 6, (.inl (fun _ => 0)))), (q5, .inl (cI, 49152, (.inl (fun _ => 0)))), (q7, .inl (cZ, 768, (.inl (fun _ => 0))))]) [0, 1, 2, 3, 4] rfl
  clear hP_544
  have hD_547 := hD_545.sub (ws' := [(h0, .inr (12, fs_139)), (q1, .inl (cI, 4000, (.inl (fun _ => 0)))), (q3, .inl (cI, 6, (.inl (fun _ => 0)))), (q5, .inl (cI, 49152, (.inl (fun _ => 0)))), (q7, .inl (cZ, 768, (.inl (fun _ => 0))))]) [0, 1, 2, 3, 4] (by decide) rfl
  clear hD_545
  refine lv_aload_n hx hb dX12_init_593 rfl (lv_at hl 0 rfl) ?_
  refine lv_sipush (v := 256) hx hb dX12_init_594 (by decide) ?_
  refine nw_arr (atype := .int) (N' := 256) (a0 := (256, (.inl (fun _ => 0)))) hx hb (hts (.arrayClass .int) (List.mem_of_getElem? (i := 4) rfl)) rfl hK 0 (cI := cI) rfl hP_546 hD_547 hS_543 hA (fun _ => rfl) (by decide) (by decide) (by decide) (Nat.le_of_ble_eq_true rfl) (Nat.le_of_ble_eq_true rfl) dX12_init_597 (fun q140 H_548 hP_548 hD_548 hS_548 => ?_)
  clear hP_546 hD_547 hS_543
  have hP_549 : va_P (dC, dI) vwCl [(h0, .inr (12, fs_139)), (q1, .inl (cI, 4000, (.inl (fun _ => 0)))), (q3, .inl (cI, 6, (.inl (fun _ => 0)))), (q5, .inl (cI, 49152, (.inl (fun _ => 0)))), (q7, .inl (cZ, 768, (.inl (fun _ => 0)))), (q140, .inl (cI, 256, (.inl (fun _ => 0))))] H_548 := hP_548
  clear hP_548
  have hD_550 : va_D A [(h0, .inr (12, fs_139)), (q1, .inl (cI, 4000, (.inl (fun _ => 0)))), (q3, .inl (cI, 6, (.inl (fun _ => 0)))), (q5, .inl (cI, 49152, (.inl (fun _ => 0)))), (q7, .inl (cZ, 768, (.inl (fun _ => 0)))), (q140, .inl (cI, 256, (.inl (fun _ => 0))))] := hD_548
  clear hD_548
  refine W.widen (k := 70) (n := 671190) (by decide) (by decide) ?_
  refine va_putF (D := (dC, dI)) (ci := 12) (v := .ref q140) (ty := .array (.int)) (C := RX12) (T := TX12) (N := 172) hx hb hts inq_X12_init_c12 tyX12 tyX12_ok nmX12 hown hK hP_549 hD_550 hS_548 0 rfl rfl 104 (by decide) (hts (.fieldLink RX12 227 "DiskEvidenceModel" "entryHas" "[I") (List.mem_of_getElem? (i := 81) rfl)) (fun _ h9 => h9) rfl hin rfl (by decide +kernel) rfl rfl (by rw [hfl_139]; decide) dX12_init_599 (fun H_551 locs_551 hP_551 hD_551 hS_551 => ?_)
  clear hP_549 hD_550 hS_548
  have hP_552 : va_P (dC, dI) vwCl [(h0, .inr (12, (fs_139.set 104 (.ref q140)))), (q1, .inl (cI, 4000, (.inl (fun _ => 0)))), (q3, .inl (cI, 6, (.inl (fun _ => 0)))), (q5, .inl (cI, 49152, (.inl (fun _ => 0)))), (q7, .inl (cZ, 768, (.inl (fun _ => 0)))), (q140, .inl (cI, 256, (.inl (fun _ => 0))))] H_551 := hP_551
  clear hP_551
  have hD_553 : va_D A [(h0, .inr (12, (fs_139.set 104 (.ref q140)))), (q1, .inl (cI, 4000, (.inl (fun _ => 0)))), (q3, .inl (cI, 6, (.inl (fun _ => 0)))), (q5, .inl (cI, 49152, (.inl (fun _ => 0)))), (q7, .inl (cZ, 768, (.inl (fun _ => 0)))), (q140, .inl (cI, 256, (.inl (fun _ => 0))))] := hD_551
  clear hD_551
  obtain ⟨fs_141, efs_141⟩ : ∃ y, y = (fs_139.set 104 (.ref q140)) := ⟨_, rfl⟩
  rw [← efs_141] at hP_552 hD_553
  have hfl_141 : fs_141.length = 172 := by rw [efs_141, List.length_set]; exact hfl_139
  clear hfl_139
  have hP_554 := hP_552.sub (ws' := [(h0, .inr (12, fs_141)), (q1, .inl (cI, 4000, (.inl (fun _ => 0)))), (q3, .inl (cI, 6, (.inl (fun _ => 0)))), (q5, .inl (cI, 49152, (.inl (fun _ => 0)))), (q7, .inl (cZ, 768, (.inl (fun _ => 0))))]) [0, 1, 2, 3, 4] rfl
  clear hP_552
  have hD_555 := hD_553.sub (ws' := [(h0, .inr (12, fs_141)), (q1, .inl (cI, 4000, (.inl (fun _ => 0)))), (q3, .inl (cI, 6, (.inl (fun _ => 0)))), (q5, .inl (cI, 49152, (.inl (fun _ => 0)))), (q7, .inl (cZ, 768, (.inl (fun _ => 0))))]) [0, 1, 2, 3, 4] (by decide) rfl
  clear hD_553
  refine lv_aload_n hx hb dX12_init_602 rfl (lv_at hl 0 rfl) ?_
  refine lv_sipush (v := 16384) hx hb dX12_init_603 (by decide) ?_
  refine nw_arr (atype := .int) (N' := 16384) (a0 := (16384, (.inl (fun _ => 0)))) hx hb (hts (.arrayClass .int) (List.mem_of_getElem? (i := 4) rfl)) rfl hK 0 (cI := cI) rfl hP_554 hD_555 hS_551 hA (fun _ => rfl) (by decide) (by decide) (by decide) (Nat.le_of_ble_eq_true rfl) (Nat.le_of_ble_eq_true rfl) dX12_init_606 (fun q142 H_556 hP_556 hD_556 hS_556 => ?_)
  clear hP_554 hD_555 hS_551
  have hP_557 : va_P (dC, dI) vwCl [(h0, .inr (12, fs_141)), (q1, .inl (cI, 4000, (.inl (fun _ => 0)))), (q3, .inl (cI, 6, (.inl (fun _ => 0)))), (q5, .inl (cI, 49152, (.inl (fun _ => 0)))), (q7, .inl (cZ, 768, (.inl (fun _ => 0)))), (q142, .inl (cI, 16384, (.inl (fun _ => 0))))] H_556 := hP_556
  clear hP_556
  have hD_558 : va_D A [(h0, .inr (12, fs_141)), (q1, .inl (cI, 4000, (.inl (fun _ => 0)))), (q3, .inl (cI, 6, (.inl (fun _ => 0)))), (q5, .inl (cI, 49152, (.inl (fun _ => 0)))), (q7, .inl (cZ, 768, (.inl (fun _ => 0)))), (q142, .inl (cI, 16384, (.inl (fun _ => 0))))] := hD_556
  clear hD_556
  refine W.widen (k := 71) (n := 687574) (by decide) (by decide) ?_
  refine va_putF (D := (dC, dI)) (ci := 12) (v := .ref q142) (ty := .array (.int)) (C := RX12) (T := TX12) (N := 172) hx hb hts inq_X12_init_c12 tyX12 tyX12_ok nmX12 hown hK hP_557 hD_558 hS_556 0 rfl rfl 105 (by decide) (hts (.fieldLink RX12 230 "DiskEvidenceModel" "row" "[I") (List.mem_of_getElem? (i := 82) rfl)) (fun _ h9 => h9) rfl hin rfl (by decide +kernel) rfl rfl (by rw [hfl_141]; decide) dX12_init_608 (fun H_559 locs_559 hP_559 hD_559 hS_559 => ?_)
  clear hP_557 hD_558 hS_556
  have hP_560 : va_P (dC, dI) vwCl [(h0, .inr (12, (fs_141.set 105 (.ref q142)))), (q1, .inl (cI, 4000, (.inl (fun _ => 0)))), (q3, .inl (cI, 6, (.inl (fun _ => 0)))), (q5, .inl (cI, 49152, (.inl (fun _ => 0)))), (q7, .inl (cZ, 768, (.inl (fun _ => 0)))), (q142, .inl (cI, 16384, (.inl (fun _ => 0))))] H_559 := hP_559
  clear hP_559
  have hD_561 : va_D A [(h0, .inr (12, (fs_141.set 105 (.ref q142)))), (q1, .inl (cI, 4000, (.inl (fun _ => 0)))), (q3, .inl (cI, 6, (.inl (fun _ => 0)))), (q5, .inl (cI, 49152, (.inl (fun _ => 0)))), (q7, .inl (cZ, 768, (.inl (fun _ => 0)))), (q142, .inl (cI, 16384, (.inl (fun _ => 0))))] := hD_559
  clear hD_559
  obtain ⟨fs_143, efs_143⟩ : ∃ y, y = (fs_141.set 105 (.ref q142)) := ⟨_, rfl⟩
  rw [← efs_143] at hP_560 hD_561
  have hfl_143 : fs_143.length = 172 := by rw [efs_143, List.length_set]; exact hfl_141
  clear hfl_141
  have el_143 : fs_143 = [.int 0, .ref q1, .int 0, .int 0, .ref q3, .ref q5, .ref q7, .int 0, .ref q9, .ref q11, .ref q13, .ref q15, .ref q17, .ref q19, .ref q21, .int 1, .int 0, .ref q24, .ref q26, .int 0, .int 0, .ref q28, .ref q30, .ref q32, .ref q34, .ref q36, .int 0, .ref q38, .ref q40, .int 0, .int 0, .ref q42, .ref q44, .ref q46, .int 0, .ref q48, .ref q50, .ref q52, .ref q54, .int 0, .int 0, .int 0, .int 0, .int 0, .int 0, .int 0, .int 0, .int 0, .int 0, .int 0, .ref q56, .ref q58, .int 0, .int 0, .ref q60, .int 0, .int 0, .int 0, .int 0, .int 0, .ref q62, .ref q64, .ref q66, .ref q68, .ref q70, .ref q72, .ref q74, .ref q76, .ref q78, .ref q80, .ref q82, .ref q84, .ref q86, .ref q88, .ref q90, .ref q92, .ref q94, .ref q96, .ref q98, .ref q100, .ref q102, .ref q104, .ref q106, .ref q108, .ref q110, .ref q112, .ref q114, .ref q116, .ref q118, .ref q120, .ref q122, .int 0, .int 0, .int 0, .ref q124, .ref q126, .ref q128, .int 0, .ref q130, .ref q132, .ref q134, .ref q136, .int 0, .ref q138, .ref q140, .ref q142, .int 0, .int 0, .int 0, .int 0, .int 0, .null, .null, .null, .null, .null, .null, .null, .null, .null, .int 0, .null, .int 0, .null, .int 0, .null, .null, .null, .int 0, .int 0, .null, .null, .null, .null, .null, .int 0, .int 0, .int 0, .null, .int 0, .null, .int 0, .null, .null, .null, .null, .int 0, .int 0, .null, .int 0, .null, .int 0, .null, .null, .null, .null, .null, .int 0, .null, .null, .null, .int 0, .null, .null, .null, .null, .null, .int 0, .null, .null, .null, .null] := by rw [efs_143, efs_141, efs_139, efs_137, efs_135, efs_133, efs_131, efs_129, efs_127, efs_125, efs_123, efs_121, el_119]; rfl
  clear efs_121 efs_123 efs_125 efs_127 efs_129 efs_131 efs_133 efs_135 efs_137 efs_139 efs_141 efs_143 el_119
  have hP_562 := hP_560.sub (ws' := [(h0, .inr (12, fs_143)), (q1, .inl (cI, 4000, (.inl (fun _ => 0)))), (q3, .inl (cI, 6, (.inl (fun _ => 0)))), (q5, .inl (cI, 49152, (.inl (fun _ => 0)))), (q7, .inl (cZ, 768, (.inl (fun _ => 0))))]) [0, 1, 2, 3, 4] rfl
  clear hP_560
  have hD_563 := hD_561.sub (ws' := [(h0, .inr (12, fs_143)), (q1, .inl (cI, 4000, (.inl (fun _ => 0)))), (q3, .inl (cI, 6, (.inl (fun _ => 0)))), (q5, .inl (cI, 49152, (.inl (fun _ => 0)))), (q7, .inl (cZ, 768, (.inl (fun _ => 0))))]) [0, 1, 2, 3, 4] (by decide) rfl
  clear hD_561
  refine lv_aload_n hx hb dX12_init_611 rfl (lv_at hl 0 rfl) ?_
  refine lv_bipush (v := 8) hx hb dX12_init_612 (by decide) ?_
  refine nw_arr (atype := .int) (N' := 8) (a0 := (8, (.inl (fun _ => 0)))) hx hb (hts (.arrayClass .int) (List.mem_of_getElem? (i := 4) rfl)) rfl hK 0 (cI := cI) rfl hP_562 hD_563 hS_559 hA (fun _ => rfl) (by decide) (by decide) (by decide) (Nat.le_of_ble_eq_true rfl) (Nat.le_of_ble_eq_true rfl) dX12_init_614 (fun q144 H_564 hP_564 hD_564 hS_564 => ?_)
  clear hP_562 hD_563 hS_559
  have hP_565 : va_P (dC, dI) vwCl [(h0, .inr (12, fs_143)), (q1, .inl (cI, 4000, (.inl (fun _ => 0)))), (q3, .inl (cI, 6, (.inl (fun _ => 0)))), (q5, .inl (cI, 49152, (.inl (fun _ => 0)))), (q7, .inl (cZ, 768, (.inl (fun _ => 0)))), (q144, .inl (cI, 8, (.inl (fun _ => 0))))] H_564 := hP_564
  clear hP_564
  have hD_566 : va_D A [(h0, .inr (12, fs_143)), (q1, .inl (cI, 4000, (.inl (fun _ => 0)))), (q3, .inl (cI, 6, (.inl (fun _ => 0)))), (q5, .inl (cI, 49152, (.inl (fun _ => 0)))), (q7, .inl (cZ, 768, (.inl (fun _ => 0)))), (q144, .inl (cI, 8, (.inl (fun _ => 0))))] := hD_564
  clear hD_564
  refine W.widen (k := 72) (n := 687582) (by decide) (by decide) ?_
  refine va_putF (D := (dC, dI)) (ci := 12) (v := .ref q144) (ty := .array (.int)) (C := RX12) (T := TX12) (N := 172) hx hb hts inq_X12_init_c12 tyX12 tyX12_ok nmX12 hown hK hP_565 hD_566 hS_564 0 rfl rfl 111 (by decide) (hts (.fieldLink RX12 233 "DiskEvidenceModel" "openTree" "[I") (List.mem_of_getElem? (i := 83) rfl)) (fun _ h9 => h9) rfl hin rfl (by decide +kernel) rfl rfl (by rw [hfl_143]; decide) dX12_init_616 (fun H_567 locs_567 hP_567 hD_567 hS_567 => ?_)
  clear hP_565 hD_566 hS_564
  have hP_568 : va_P (dC, dI) vwCl [(h0, .inr (12, (fs_143.set 111 (.ref q144)))), (q1, .inl (cI, 4000, (.inl (fun _ => 0)))), (q3, .inl (cI, 6, (.inl (fun _ => 0)))), (q5, .inl (cI, 49152, (.inl (fun _ => 0)))), (q7, .inl (cZ, 768, (.inl (fun _ => 0)))), (q144, .inl (cI, 8, (.inl (fun _ => 0))))] H_567 := hP_567
  clear hP_567
  have hD_569 : va_D A [(h0, .inr (12, (fs_143.set 111 (.ref q144)))), (q1, .inl (cI, 4000, (.inl (fun _ => 0)))), (q3, .inl (cI, 6, (.inl (fun _ => 0)))), (q5, .inl (cI, 49152, (.inl (fun _ => 0)))), (q7, .inl (cZ, 768, (.inl (fun _ => 0)))), (q144, .inl (cI, 8, (.inl (fun _ => 0))))] := hD_567
  clear hD_567
  obtain ⟨fs_145, efs_145⟩ : ∃ y, y = (fs_143.set 111 (.ref q144)) := ⟨_, rfl⟩
  rw [← efs_145] at hP_568 hD_569
  have hfl_145 : fs_145.length = 172 := by rw [efs_145, List.length_set]; exact hfl_143
  clear hfl_143
  have hP_570 := hP_568.sub (ws' := [(h0, .inr (12, fs_145)), (q1, .inl (cI, 4000, (.inl (fun _ => 0)))), (q3, .inl (cI, 6, (.inl (fun _ => 0)))), (q5, .inl (cI, 49152, (.inl (fun _ => 0)))), (q7, .inl (cZ, 768, (.inl (fun _ => 0))))]) [0, 1, 2, 3, 4] rfl
  clear hP_568
  have hD_571 := hD_569.sub (ws' := [(h0, .inr (12, fs_145)), (q1, .inl (cI, 4000, (.inl (fun _ => 0)))), (q3, .inl (cI, 6, (.inl (fun _ => 0)))), (q5, .inl (cI, 49152, (.inl (fun _ => 0)))), (q7, .inl (cZ, 768, (.inl (fun _ => 0))))]) [0, 1, 2, 3, 4] (by decide) rfl
  clear hD_569
  refine lv_aload_n hx hb dX12_init_619 rfl (lv_at hl 0 rfl) ?_
  refine lv_bipush (v := 8) hx hb dX12_init_620 (by decide) ?_
  refine nw_arr (atype := .int) (N' := 8) (a0 := (8, (.inl (fun _ => 0)))) hx hb (hts (.arrayClass .int) (List.mem_of_getElem? (i := 4) rfl)) rfl hK 0 (cI := cI) rfl hP_570 hD_571 hS_567 hA (fun _ => rfl) (by decide) (by decide) (by decide) (Nat.le_of_ble_eq_true rfl) (Nat.le_of_ble_eq_true rfl) dX12_init_622 (fun q146 H_572 hP_572 hD_572 hS_572 => ?_)
  clear hP_570 hD_571 hS_567
  have hP_573 : va_P (dC, dI) vwCl [(h0, .inr (12, fs_145)), (q1, .inl (cI, 4000, (.inl (fun _ => 0)))), (q3, .inl (cI, 6, (.inl (fun _ => 0)))), (q5, .inl (cI, 49152, (.inl (fun _ => 0)))), (q7, .inl (cZ, 768, (.inl (fun _ => 0)))), (q146, .inl (cI, 8, (.inl (fun _ => 0))))] H_572 := hP_572
  clear hP_572
  have hD_574 : va_D A [(h0, .inr (12, fs_145)), (q1, .inl (cI, 4000, (.inl (fun _ => 0)))), (q3, .inl (cI, 6, (.inl (fun _ => 0)))), (q5, .inl (cI, 49152, (.inl (fun _ => 0)))), (q7, .inl (cZ, 768, (.inl (fun _ => 0)))), (q146, .inl (cI, 8, (.inl (fun _ => 0))))] := hD_572
  clear hD_572
  refine W.widen (k := 73) (n := 687590) (by decide) (by decide) ?_
  refine va_putF (D := (dC, dI)) (ci := 12) (v := .ref q146) (ty := .array (.int)) (C := RX12) (T := TX12) (N := 172) hx hb hts inq_X12_init_c12 tyX12 tyX12_ok nmX12 hown hK hP_573 hD_574 hS_572 0 rfl rfl 112 (by decide) (hts (.fieldLink RX12 236 "DiskEvidenceModel" "openFile" "[I") (List.mem_of_getElem? (i := 84) rfl)) (fun _ h9 => h9) rfl hin rfl (by decide +kernel) rfl rfl (by rw [hfl_145]; decide) dX12_init_624 (fun H_575 locs_575 hP_575 hD_575 hS_575 => ?_)
  clear hP_573 hD_574 hS_572
  have hP_576 : va_P (dC, dI) vwCl [(h0, .inr (12, (fs_145.set 112 (.ref q146)))), (q1, .inl (cI, 4000, (.inl (fun _ => 0)))), (q3, .inl (cI, 6, (.inl (fun _ => 0)))), (q5, .inl (cI, 49152, (.inl (fun _ => 0)))), (q7, .inl (cZ, 768, (.inl (fun _ => 0)))), (q146, .inl (cI, 8, (.inl (fun _ => 0))))] H_575 := hP_575
  clear hP_575
  have hD_577 : va_D A [(h0, .inr (12, (fs_145.set 112 (.ref q146)))), (q1, .inl (cI, 4000, (.inl (fun _ => 0)))), (q3, .inl (cI, 6, (.inl (fun _ => 0)))), (q5, .inl (cI, 49152, (.inl (fun _ => 0)))), (q7, .inl (cZ, 768, (.inl (fun _ => 0)))), (q146, .inl (cI, 8, (.inl (fun _ => 0))))] := hD_575
  clear hD_575
  obtain ⟨fs_147, efs_147⟩ : ∃ y, y = (fs_145.set 112 (.ref q146)) := ⟨_, rfl⟩
  rw [← efs_147] at hP_576 hD_577
  have hfl_147 : fs_147.length = 172 := by rw [efs_147, List.length_set]; exact hfl_145
  clear hfl_145
  have hP_578 := hP_576.sub (ws' := [(h0, .inr (12, fs_147)), (q1, .inl (cI, 4000, (.inl (fun _ => 0)))), (q3, .inl (cI, 6, (.inl (fun _ => 0)))), (q5, .inl (cI, 49152, (.inl (fun _ => 0)))), (q7, .inl (cZ, 768, (.inl (fun _ => 0))))]) [0, 1, 2, 3, 4] rfl
  clear hP_576
  have hD_579 := hD_577.sub (ws' := [(h0, .inr (12, fs_147)), (q1, .inl (cI, 4000, (.inl (fun _ => 0)))), (q3, .inl (cI, 6, (.inl (fun _ => 0)))), (q5, .inl (cI, 49152, (.inl (fun _ => 0)))), (q7, .inl (cZ, 768, (.inl (fun _ => 0))))]) [0, 1, 2, 3, 4] (by decide) rfl
  clear hD_577
  refine lv_aload_n hx hb dX12_init_627 rfl (lv_at hl 0 rfl) ?_
  refine lv_bipush (v := 8) hx hb dX12_init_628 (by decide) ?_
  refine nw_arr (atype := .int) (N' := 8) (a0 := (8, (.inl (fun _ => 0)))) hx hb (hts (.arrayClass .int) (List.mem_of_getElem? (i := 4) rfl)) rfl hK 0 (cI := cI) rfl hP_578 hD_579 hS_575 hA (fun _ => rfl) (by decide) (by decide) (by decide) (Nat.le_of_ble_eq_true rfl) (Nat.le_of_ble_eq_true rfl) dX12_init_630 (fun q148 H_580 hP_580 hD_580 hS_580 => ?_)
  clear hP_578 hD_579 hS_575
  have hP_581 : va_P (dC, dI) vwCl [(h0, .inr (12, fs_147)), (q1, .inl (cI, 4000, (.inl (fun _ => 0)))), (q3, .inl (cI, 6, (.inl (fun _ => 0)))), (q5, .inl (cI, 49152, (.inl (fun _ => 0)))), (q7, .inl (cZ, 768, (.inl (fun _ => 0)))), (q148, .inl (cI, 8, (.inl (fun _ => 0))))] H_580 := hP_580
  clear hP_580
  have hD_582 : va_D A [(h0, .inr (12, fs_147)), (q1, .inl (cI, 4000, (.inl (fun _ => 0)))), (q3, .inl (cI, 6, (.inl (fun _ => 0)))), (q5, .inl (cI, 49152, (.inl (fun _ => 0)))), (q7, .inl (cZ, 768, (.inl (fun _ => 0)))), (q148, .inl (cI, 8, (.inl (fun _ => 0))))] := hD_580
  clear hD_580
  refine W.widen (k := 74) (n := 687598) (by decide) (by decide) ?_
  refine va_putF (D := (dC, dI)) (ci := 12) (v := .ref q148) (ty := .array (.int)) (C := RX12) (T := TX12) (N := 172) hx hb hts inq_X12_init_c12 tyX12 tyX12_ok nmX12 hown hK hP_581 hD_582 hS_580 0 rfl rfl 113 (by decide) (hts (.fieldLink RX12 239 "DiskEvidenceModel" "openSize" "[I") (List.mem_of_getElem? (i := 85) rfl)) (fun _ h9 => h9) rfl hin rfl (by decide +kernel) rfl rfl (by rw [hfl_147]; decide) dX12_init_632 (fun H_583 locs_583 hP_583 hD_583 hS_583 => ?_)
  clear hP_581 hD_582 hS_580
  have hP_584 : va_P (dC, dI) vwCl [(h0, .inr (12, (fs_147.set 113 (.ref q148)))), (q1, .inl (cI, 4000, (.inl (fun _ => 0)))), (q3, .inl (cI, 6, (.inl (fun _ => 0)))), (q5, .inl (cI, 49152, (.inl (fun _ => 0)))), (q7, .inl (cZ, 768, (.inl (fun _ => 0)))), (q148, .inl (cI, 8, (.inl (fun _ => 0))))] H_583 := hP_583
  clear hP_583
  have hD_585 : va_D A [(h0, .inr (12, (fs_147.set 113 (.ref q148)))), (q1, .inl (cI, 4000, (.inl (fun _ => 0)))), (q3, .inl (cI, 6, (.inl (fun _ => 0)))), (q5, .inl (cI, 49152, (.inl (fun _ => 0)))), (q7, .inl (cZ, 768, (.inl (fun _ => 0)))), (q148, .inl (cI, 8, (.inl (fun _ => 0))))] := hD_583
  clear hD_583
  obtain ⟨fs_149, efs_149⟩ : ∃ y, y = (fs_147.set 113 (.ref q148)) := ⟨_, rfl⟩
  rw [← efs_149] at hP_584 hD_585
  have hfl_149 : fs_149.length = 172 := by rw [efs_149, List.length_set]; exact hfl_147
  clear hfl_147
  have hP_586 := hP_584.sub (ws' := [(h0, .inr (12, fs_149)), (q1, .inl (cI, 4000, (.inl (fun _ => 0)))), (q3, .inl (cI, 6, (.inl (fun _ => 0)))), (q5, .inl (cI, 49152, (.inl (fun _ => 0)))), (q7, .inl (cZ, 768, (.inl (fun _ => 0))))]) [0, 1, 2, 3, 4] rfl
  clear hP_584
  have hD_587 := hD_585.sub (ws' := [(h0, .inr (12, fs_149)), (q1, .inl (cI, 4000, (.inl (fun _ => 0)))), (q3, .inl (cI, 6, (.inl (fun _ => 0)))), (q5, .inl (cI, 49152, (.inl (fun _ => 0)))), (q7, .inl (cZ, 768, (.inl (fun _ => 0))))]) [0, 1, 2, 3, 4] (by decide) rfl
  clear hD_585
  refine lv_aload_n hx hb dX12_init_635 rfl (lv_at hl 0 rfl) ?_
  refine lv_bipush (v := 8) hx hb dX12_init_636 (by decide) ?_
  refine nw_arr (atype := .int) (N' := 8) (a0 := (8, (.inl (fun _ => 0)))) hx hb (hts (.arrayClass .int) (List.mem_of_getElem? (i := 4) rfl)) rfl hK 0 (cI := cI) rfl hP_586 hD_587 hS_583 hA (fun _ => rfl) (by decide) (by decide) (by decide) (Nat.le_of_ble_eq_true rfl) (Nat.le_of_ble_eq_true rfl) dX12_init_638 (fun q150 H_588 hP_588 hD_588 hS_588 => ?_)
  clear hP_586 hD_587 hS_583
  have hP_589 : va_P (dC, dI) vwCl [(h0, .inr (12, fs_149)), (q1, .inl (cI, 4000, (.inl (fun _ => 0)))), (q3, .inl (cI, 6, (.inl (fun _ => 0)))), (q5, .inl (cI, 49152, (.inl (fun _ => 0)))), (q7, .inl (cZ, 768, (.inl (fun _ => 0)))), (q150, .inl (cI, 8, (.inl (fun _ => 0))))] H_588 := hP_588
  clear hP_588
  have hD_590 : va_D A [(h0, .inr (12, fs_149)), (q1, .inl (cI, 4000, (.inl (fun _ => 0)))), (q3, .inl (cI, 6, (.inl (fun _ => 0)))), (q5, .inl (cI, 49152, (.inl (fun _ => 0)))), (q7, .inl (cZ, 768, (.inl (fun _ => 0)))), (q150, .inl (cI, 8, (.inl (fun _ => 0))))] := hD_588
  clear hD_588
  refine W.widen (k := 75) (n := 687606) (by decide) (by decide) ?_
  refine va_putF (D := (dC, dI)) (ci := 12) (v := .ref q150) (ty := .array (.int)) (C := RX12) (T := TX12) (N := 172) hx hb hts inq_X12_init_c12 tyX12 tyX12_ok nmX12 hown hK hP_589 hD_590 hS_588 0 rfl rfl 114 (by decide) (hts (.fieldLink RX12 242 "DiskEvidenceModel" "points" "[I") (List.mem_of_getElem? (i := 86) rfl)) (fun _ h9 => h9) rfl hin rfl (by decide +kernel) rfl rfl (by rw [hfl_149]; decide) dX12_init_640 (fun H_591 locs_591 hP_591 hD_591 hS_591 => ?_)
  clear hP_589 hD_590 hS_588
  have hP_592 : va_P (dC, dI) vwCl [(h0, .inr (12, (fs_149.set 114 (.ref q150)))), (q1, .inl (cI, 4000, (.inl (fun _ => 0)))), (q3, .inl (cI, 6, (.inl (fun _ => 0)))), (q5, .inl (cI, 49152, (.inl (fun _ => 0)))), (q7, .inl (cZ, 768, (.inl (fun _ => 0)))), (q150, .inl (cI, 8, (.inl (fun _ => 0))))] H_591 := hP_591
  clear hP_591
  have hD_593 : va_D A [(h0, .inr (12, (fs_149.set 114 (.ref q150)))), (q1, .inl (cI, 4000, (.inl (fun _ => 0)))), (q3, .inl (cI, 6, (.inl (fun _ => 0)))), (q5, .inl (cI, 49152, (.inl (fun _ => 0)))), (q7, .inl (cZ, 768, (.inl (fun _ => 0)))), (q150, .inl (cI, 8, (.inl (fun _ => 0))))] := hD_591
  clear hD_591
  obtain ⟨fs_151, efs_151⟩ : ∃ y, y = (fs_149.set 114 (.ref q150)) := ⟨_, rfl⟩
  rw [← efs_151] at hP_592 hD_593
  have hfl_151 : fs_151.length = 172 := by rw [efs_151, List.length_set]; exact hfl_149
  clear hfl_149
  have hP_594 := hP_592.sub (ws' := [(h0, .inr (12, fs_151)), (q1, .inl (cI, 4000, (.inl (fun _ => 0)))), (q3, .inl (cI, 6, (.inl (fun _ => 0)))), (q5, .inl (cI, 49152, (.inl (fun _ => 0)))), (q7, .inl (cZ, 768, (.inl (fun _ => 0))))]) [0, 1, 2, 3, 4] rfl
  clear hP_592
  have hD_595 := hD_593.sub (ws' := [(h0, .inr (12, fs_151)), (q1, .inl (cI, 4000, (.inl (fun _ => 0)))), (q3, .inl (cI, 6, (.inl (fun _ => 0)))), (q5, .inl (cI, 49152, (.inl (fun _ => 0)))), (q7, .inl (cZ, 768, (.inl (fun _ => 0))))]) [0, 1, 2, 3, 4] (by decide) rfl
  clear hD_593
  refine lv_aload_n hx hb dX12_init_643 rfl (lv_at hl 0 rfl) ?_
  refine lv_sipush (v := 960) hx hb dX12_init_644 (by decide) ?_
  refine nw_arr (atype := .int) (N' := 960) (a0 := (960, (.inl (fun _ => 0)))) hx hb (hts (.arrayClass .int) (List.mem_of_getElem? (i := 4) rfl)) rfl hK 0 (cI := cI) rfl hP_594 hD_595 hS_591 hA (fun _ => rfl) (by decide) (by decide) (by decide) (Nat.le_of_ble_eq_true rfl) (Nat.le_of_ble_eq_true rfl) dX12_init_647 (fun q152 H_596 hP_596 hD_596 hS_596 => ?_)
  clear hP_594 hD_595 hS_591
  have hP_597 : va_P (dC, dI) vwCl [(h0, .inr (12, fs_151)), (q1, .inl (cI, 4000, (.inl (fun _ => 0)))), (q3, .inl (cI, 6, (.inl (fun _ => 0)))), (q5, .inl (cI, 49152, (.inl (fun _ => 0)))), (q7, .inl (cZ, 768, (.inl (fun _ => 0)))), (q152, .inl (cI, 960, (.inl (fun _ => 0))))] H_596 := hP_596
  clear hP_596
  have hD_598 : va_D A [(h0, .inr (12, fs_151)), (q1, .inl (cI, 4000, (.inl (fun _ => 0)))), (q3, .inl (cI, 6, (.inl (fun _ => 0)))), (q5, .inl (cI, 49152, (.inl (fun _ => 0)))), (q7, .inl (cZ, 768, (.inl (fun _ => 0)))), (q152, .inl (cI, 960, (.inl (fun _ => 0))))] := hD_596
  clear hD_596
  refine W.widen (k := 76) (n := 688566) (by decide) (by decide) ?_
  refine va_putF (D := (dC, dI)) (ci := 12) (v := .ref q152) (ty := .array (.int)) (C := RX12) (T := TX12) (N := 172) hx hb hts inq_X12_init_c12 tyX12 tyX12_ok nmX12 hown hK hP_597 hD_598 hS_596 0 rfl rfl 115 (by decide) (hts (.fieldLink RX12 245 "DiskEvidenceModel" "pointKind" "[I") (List.mem_of_getElem? (i := 87) rfl)) (fun _ h9 => h9) rfl hin rfl (by decide +kernel) rfl rfl (by rw [hfl_151]; decide) dX12_init_649 (fun H_599 locs_599 hP_599 hD_599 hS_599 => ?_)
  clear hP_597 hD_598 hS_596
  have hP_600 : va_P (dC, dI) vwCl [(h0, .inr (12, (fs_151.set 115 (.ref q152)))), (q1, .inl (cI, 4000, (.inl (fun _ => 0)))), (q3, .inl (cI, 6, (.inl (fun _ => 0)))), (q5, .inl (cI, 49152, (.inl (fun _ => 0)))), (q7, .inl (cZ, 768, (.inl (fun _ => 0)))), (q152, .inl (cI, 960, (.inl (fun _ => 0))))] H_599 := hP_599
  clear hP_599
  have hD_601 : va_D A [(h0, .inr (12, (fs_151.set 115 (.ref q152)))), (q1, .inl (cI, 4000, (.inl (fun _ => 0)))), (q3, .inl (cI, 6, (.inl (fun _ => 0)))), (q5, .inl (cI, 49152, (.inl (fun _ => 0)))), (q7, .inl (cZ, 768, (.inl (fun _ => 0)))), (q152, .inl (cI, 960, (.inl (fun _ => 0))))] := hD_599
  clear hD_599
  obtain ⟨fs_153, efs_153⟩ : ∃ y, y = (fs_151.set 115 (.ref q152)) := ⟨_, rfl⟩
  rw [← efs_153] at hP_600 hD_601
  have hfl_153 : fs_153.length = 172 := by rw [efs_153, List.length_set]; exact hfl_151
  clear hfl_151
  have hP_602 := hP_600.sub (ws' := [(h0, .inr (12, fs_153)), (q1, .inl (cI, 4000, (.inl (fun _ => 0)))), (q3, .inl (cI, 6, (.inl (fun _ => 0)))), (q5, .inl (cI, 49152, (.inl (fun _ => 0)))), (q7, .inl (cZ, 768, (.inl (fun _ => 0))))]) [0, 1, 2, 3, 4] rfl
  clear hP_600
  have hD_603 := hD_601.sub (ws' := [(h0, .inr (12, fs_153)), (q1, .inl (cI, 4000, (.inl (fun _ => 0)))), (q3, .inl (cI, 6, (.inl (fun _ => 0)))), (q5, .inl (cI, 49152, (.inl (fun _ => 0)))), (q7, .inl (cZ, 768, (.inl (fun _ => 0))))]) [0, 1, 2, 3, 4] (by decide) rfl
  clear hD_601
  refine lv_aload_n hx hb dX12_init_652 rfl (lv_at hl 0 rfl) ?_
  refine lv_sipush (v := 960) hx hb dX12_init_653 (by decide) ?_
  refine nw_arr (atype := .int) (N' := 960) (a0 := (960, (.inl (fun _ => 0)))) hx hb (hts (.arrayClass .int) (List.mem_of_getElem? (i := 4) rfl)) rfl hK 0 (cI := cI) rfl hP_602 hD_603 hS_599 hA (fun _ => rfl) (by decide) (by decide) (by decide) (Nat.le_of_ble_eq_true rfl) (Nat.le_of_ble_eq_true rfl) dX12_init_656 (fun q154 H_604 hP_604 hD_604 hS_604 => ?_)
  clear hP_602 hD_603 hS_599
  have hP_605 : va_P (dC, dI) vwCl [(h0, .inr (12, fs_153)), (q1, .inl (cI, 4000, (.inl (fun _ => 0)))), (q3, .inl (cI, 6, (.inl (fun _ => 0)))), (q5, .inl (cI, 49152, (.inl (fun _ => 0)))), (q7, .inl (cZ, 768, (.inl (fun _ => 0)))), (q154, .inl (cI, 960, (.inl (fun _ => 0))))] H_604 := hP_604
  clear hP_604
  have hD_606 : va_D A [(h0, .inr (12, fs_153)), (q1, .inl (cI, 4000, (.inl (fun _ => 0)))), (q3, .inl (cI, 6, (.inl (fun _ => 0)))), (q5, .inl (cI, 49152, (.inl (fun _ => 0)))), (q7, .inl (cZ, 768, (.inl (fun _ => 0)))), (q154, .inl (cI, 960, (.inl (fun _ => 0))))] := hD_604
  clear hD_604
  refine W.widen (k := 77) (n := 689526) (by decide) (by decide) ?_
  refine va_putF (D := (dC, dI)) (ci := 12) (v := .ref q154) (ty := .array (.int)) (C := RX12) (T := TX12) (N := 172) hx hb hts inq_X12_init_c12 tyX12 tyX12_ok nmX12 hown hK hP_605 hD_606 hS_604 0 rfl rfl 116 (by decide) (hts (.fieldLink RX12 248 "DiskEvidenceModel" "pointFrom" "[I") (List.mem_of_getElem? (i := 88) rfl)) (fun _ h9 => h9) rfl hin rfl (by decide +kernel) rfl rfl (by rw [hfl_153]; decide) dX12_init_658 (fun H_607 locs_607 hP_607 hD_607 hS_607 => ?_)
  clear hP_605 hD_606 hS_604
  have hP_608 : va_P (dC, dI) vwCl [(h0, .inr (12, (fs_153.set 116 (.ref q154)))), (q1, .inl (cI, 4000, (.inl (fun _ => 0)))), (q3, .inl (cI, 6, (.inl (fun _ => 0)))), (q5, .inl (cI, 49152, (.inl (fun _ => 0)))), (q7, .inl (cZ, 768, (.inl (fun _ => 0)))), (q154, .inl (cI, 960, (.inl (fun _ => 0))))] H_607 := hP_607
  clear hP_607
  have hD_609 : va_D A [(h0, .inr (12, (fs_153.set 116 (.ref q154)))), (q1, .inl (cI, 4000, (.inl (fun _ => 0)))), (q3, .inl (cI, 6, (.inl (fun _ => 0)))), (q5, .inl (cI, 49152, (.inl (fun _ => 0)))), (q7, .inl (cZ, 768, (.inl (fun _ => 0)))), (q154, .inl (cI, 960, (.inl (fun _ => 0))))] := hD_607
  clear hD_607
  obtain ⟨fs_155, efs_155⟩ : ∃ y, y = (fs_153.set 116 (.ref q154)) := ⟨_, rfl⟩
  rw [← efs_155] at hP_608 hD_609
  have hfl_155 : fs_155.length = 172 := by rw [efs_155, List.length_set]; exact hfl_153
  clear hfl_153
  have hP_610 := hP_608.sub (ws' := [(h0, .inr (12, fs_155)), (q1, .inl (cI, 4000, (.inl (fun _ => 0)))), (q3, .inl (cI, 6, (.inl (fun _ => 0)))), (q5, .inl (cI, 49152, (.inl (fun _ => 0)))), (q7, .inl (cZ, 768, (.inl (fun _ => 0))))]) [0, 1, 2, 3, 4] rfl
  clear hP_608
  have hD_611 := hD_609.sub (ws' := [(h0, .inr (12, fs_155)), (q1, .inl (cI, 4000, (.inl (fun _ => 0)))), (q3, .inl (cI, 6, (.inl (fun _ => 0)))), (q5, .inl (cI, 49152, (.inl (fun _ => 0)))), (q7, .inl (cZ, 768, (.inl (fun _ => 0))))]) [0, 1, 2, 3, 4] (by decide) rfl
  clear hD_609
  refine lv_aload_n hx hb dX12_init_661 rfl (lv_at hl 0 rfl) ?_
  refine lv_sipush (v := 960) hx hb dX12_init_662 (by decide) ?_
  refine nw_arr (atype := .int) (N' := 960) (a0 := (960, (.inl (fun _ => 0)))) hx hb (hts (.arrayClass .int) (List.mem_of_getElem? (i := 4) rfl)) rfl hK 0 (cI := cI) rfl hP_610 hD_611 hS_607 hA (fun _ => rfl) (by decide) (by decide) (by decide) (Nat.le_of_ble_eq_true rfl) (Nat.le_of_ble_eq_true rfl) dX12_init_665 (fun q156 H_612 hP_612 hD_612 hS_612 => ?_)
  clear hP_610 hD_611 hS_607
  have hP_613 : va_P (dC, dI) vwCl [(h0, .inr (12, fs_155)), (q1, .inl (cI, 4000, (.inl (fun _ => 0)))), (q3, .inl (cI, 6, (.inl (fun _ => 0)))), (q5, .inl (cI, 49152, (.inl (fun _ => 0)))), (q7, .inl (cZ, 768, (.inl (fun _ => 0)))), (q156, .inl (cI, 960, (.inl (fun _ => 0))))] H_612 := hP_612
  clear hP_612
  have hD_614 : va_D A [(h0, .inr (12, fs_155)), (q1, .inl (cI, 4000, (.inl (fun _ => 0)))), (q3, .inl (cI, 6, (.inl (fun _ => 0)))), (q5, .inl (cI, 49152, (.inl (fun _ => 0)))), (q7, .inl (cZ, 768, (.inl (fun _ => 0)))), (q156, .inl (cI, 960, (.inl (fun _ => 0))))] := hD_612
  clear hD_612
  refine W.widen (k := 78) (n := 690486) (by decide) (by decide) ?_
  refine va_putF (D := (dC, dI)) (ci := 12) (v := .ref q156) (ty := .array (.int)) (C := RX12) (T := TX12) (N := 172) hx hb hts inq_X12_init_c12 tyX12 tyX12_ok nmX12 hown hK hP_613 hD_614 hS_612 0 rfl rfl 117 (by decide) (hts (.fieldLink RX12 251 "DiskEvidenceModel" "pointTo" "[I") (List.mem_of_getElem? (i := 89) rfl)) (fun _ h9 => h9) rfl hin rfl (by decide +kernel) rfl rfl (by rw [hfl_155]; decide) dX12_init_667 (fun H_615 locs_615 hP_615 hD_615 hS_615 => ?_)
  clear hP_613 hD_614 hS_612
  have hP_616 : va_P (dC, dI) vwCl [(h0, .inr (12, (fs_155.set 117 (.ref q156)))), (q1, .inl (cI, 4000, (.inl (fun _ => 0)))), (q3, .inl (cI, 6, (.inl (fun _ => 0)))), (q5, .inl (cI, 49152, (.inl (fun _ => 0)))), (q7, .inl (cZ, 768, (.inl (fun _ => 0)))), (q156, .inl (cI, 960, (.inl (fun _ => 0))))] H_615 := hP_615
  clear hP_615
  have hD_617 : va_D A [(h0, .inr (12, (fs_155.set 117 (.ref q156)))), (q1, .inl (cI, 4000, (.inl (fun _ => 0)))), (q3, .inl (cI, 6, (.inl (fun _ => 0)))), (q5, .inl (cI, 49152, (.inl (fun _ => 0)))), (q7, .inl (cZ, 768, (.inl (fun _ => 0)))), (q156, .inl (cI, 960, (.inl (fun _ => 0))))] := hD_615
  clear hD_615
  obtain ⟨fs_157, efs_157⟩ : ∃ y, y = (fs_155.set 117 (.ref q156)) := ⟨_, rfl⟩
  rw [← efs_157] at hP_616 hD_617
  have hfl_157 : fs_157.length = 172 := by rw [efs_157, List.length_set]; exact hfl_155
  clear hfl_155
  have hP_618 := hP_616.sub (ws' := [(h0, .inr (12, fs_157)), (q1, .inl (cI, 4000, (.inl (fun _ => 0)))), (q3, .inl (cI, 6, (.inl (fun _ => 0)))), (q5, .inl (cI, 49152, (.inl (fun _ => 0)))), (q7, .inl (cZ, 768, (.inl (fun _ => 0))))]) [0, 1, 2, 3, 4] rfl
  clear hP_616
  have hD_619 := hD_617.sub (ws' := [(h0, .inr (12, fs_157)), (q1, .inl (cI, 4000, (.inl (fun _ => 0)))), (q3, .inl (cI, 6, (.inl (fun _ => 0)))), (q5, .inl (cI, 49152, (.inl (fun _ => 0)))), (q7, .inl (cZ, 768, (.inl (fun _ => 0))))]) [0, 1, 2, 3, 4] (by decide) rfl
  clear hD_617
  refine lv_aload_n hx hb dX12_init_670 rfl (lv_at hl 0 rfl) ?_
  refine lv_sipush (v := 960) hx hb dX12_init_671 (by decide) ?_
  refine nw_arr (atype := .int) (N' := 960) (a0 := (960, (.inl (fun _ => 0)))) hx hb (hts (.arrayClass .int) (List.mem_of_getElem? (i := 4) rfl)) rfl hK 0 (cI := cI) rfl hP_618 hD_619 hS_615 hA (fun _ => rfl) (by decide) (by decide) (by decide) (Nat.le_of_ble_eq_true rfl) (Nat.le_of_ble_eq_true rfl) dX12_init_674 (fun q158 H_620 hP_620 hD_620 hS_620 => ?_)
  clear hP_618 hD_619 hS_615
  have hP_621 : va_P (dC, dI) vwCl [(h0, .inr (12, fs_157)), (q1, .inl (cI, 4000, (.inl (fun _ => 0)))), (q3, .inl (cI, 6, (.inl (fun _ => 0)))), (q5, .inl (cI, 49152, (.inl (fun _ => 0)))), (q7, .inl (cZ, 768, (.inl (fun _ => 0)))), (q158, .inl (cI, 960, (.inl (fun _ => 0))))] H_620 := hP_620
  clear hP_620
  have hD_622 : va_D A [(h0, .inr (12, fs_157)), (q1, .inl (cI, 4000, (.inl (fun _ => 0)))), (q3, .inl (cI, 6, (.inl (fun _ => 0)))), (q5, .inl (cI, 49152, (.inl (fun _ => 0)))), (q7, .inl (cZ, 768, (.inl (fun _ => 0)))), (q158, .inl (cI, 960, (.inl (fun _ => 0))))] := hD_620
  clear hD_620
  refine W.widen (k := 79) (n := 691446) (by decide) (by decide) ?_
  refine va_putF (D := (dC, dI)) (ci := 12) (v := .ref q158) (ty := .array (.int)) (C := RX12) (T := TX12) (N := 172) hx hb hts inq_X12_init_c12 tyX12 tyX12_ok nmX12 hown hK hP_621 hD_622 hS_620 0 rfl rfl 118 (by decide) (hts (.fieldLink RX12 254 "DiskEvidenceModel" "pointValue" "[I") (List.mem_of_getElem? (i := 90) rfl)) (fun _ h9 => h9) rfl hin rfl (by decide +kernel) rfl rfl (by rw [hfl_157]; decide) dX12_init_676 (fun H_623 locs_623 hP_623 hD_623 hS_623 => ?_)
  clear hP_621 hD_622 hS_620
  have hP_624 : va_P (dC, dI) vwCl [(h0, .inr (12, (fs_157.set 118 (.ref q158)))), (q1, .inl (cI, 4000, (.inl (fun _ => 0)))), (q3, .inl (cI, 6, (.inl (fun _ => 0)))), (q5, .inl (cI, 49152, (.inl (fun _ => 0)))), (q7, .inl (cZ, 768, (.inl (fun _ => 0)))), (q158, .inl (cI, 960, (.inl (fun _ => 0))))] H_623 := hP_623
  clear hP_623
  have hD_625 : va_D A [(h0, .inr (12, (fs_157.set 118 (.ref q158)))), (q1, .inl (cI, 4000, (.inl (fun _ => 0)))), (q3, .inl (cI, 6, (.inl (fun _ => 0)))), (q5, .inl (cI, 49152, (.inl (fun _ => 0)))), (q7, .inl (cZ, 768, (.inl (fun _ => 0)))), (q158, .inl (cI, 960, (.inl (fun _ => 0))))] := hD_623
  clear hD_623
  obtain ⟨fs_159, efs_159⟩ : ∃ y, y = (fs_157.set 118 (.ref q158)) := ⟨_, rfl⟩
  rw [← efs_159] at hP_624 hD_625
  have hfl_159 : fs_159.length = 172 := by rw [efs_159, List.length_set]; exact hfl_157
  clear hfl_157
  have hP_626 := hP_624.sub (ws' := [(h0, .inr (12, fs_159)), (q1, .inl (cI, 4000, (.inl (fun _ => 0)))), (q3, .inl (cI, 6, (.inl (fun _ => 0)))), (q5, .inl (cI, 49152, (.inl (fun _ => 0)))), (q7, .inl (cZ, 768, (.inl (fun _ => 0))))]) [0, 1, 2, 3, 4] rfl
  clear hP_624
  have hD_627 := hD_625.sub (ws' := [(h0, .inr (12, fs_159)), (q1, .inl (cI, 4000, (.inl (fun _ => 0)))), (q3, .inl (cI, 6, (.inl (fun _ => 0)))), (q5, .inl (cI, 49152, (.inl (fun _ => 0)))), (q7, .inl (cZ, 768, (.inl (fun _ => 0))))]) [0, 1, 2, 3, 4] (by decide) rfl
  clear hD_625
  refine lv_aload_n hx hb dX12_init_679 rfl (lv_at hl 0 rfl) ?_
  refine lv_sipush (v := 960) hx hb dX12_init_680 (by decide) ?_
  refine nw_arr (atype := .int) (N' := 960) (a0 := (960, (.inl (fun _ => 0)))) hx hb (hts (.arrayClass .int) (List.mem_of_getElem? (i := 4) rfl)) rfl hK 0 (cI := cI) rfl hP_626 hD_627 hS_623 hA (fun _ => rfl) (by decide) (by decide) (by decide) (Nat.le_of_ble_eq_true rfl) (Nat.le_of_ble_eq_true rfl) dX12_init_683 (fun q160 H_628 hP_628 hD_628 hS_628 => ?_)
  clear hP_626 hD_627 hS_623
  have hP_629 : va_P (dC, dI) vwCl [(h0, .inr (12, fs_159)), (q1, .inl (cI, 4000, (.inl (fun _ => 0)))), (q3, .inl (cI, 6, (.inl (fun _ => 0)))), (q5, .inl (cI, 49152, (.inl (fun _ => 0)))), (q7, .inl (cZ, 768, (.inl (fun _ => 0)))), (q160, .inl (cI, 960, (.inl (fun _ => 0))))] H_628 := hP_628
  clear hP_628
  have hD_630 : va_D A [(h0, .inr (12, fs_159)), (q1, .inl (cI, 4000, (.inl (fun _ => 0)))), (q3, .inl (cI, 6, (.inl (fun _ => 0)))), (q5, .inl (cI, 49152, (.inl (fun _ => 0)))), (q7, .inl (cZ, 768, (.inl (fun _ => 0)))), (q160, .inl (cI, 960, (.inl (fun _ => 0))))] := hD_628
  clear hD_628
  refine W.widen (k := 80) (n := 692406) (by decide) (by decide) ?_
  refine va_putF (D := (dC, dI)) (ci := 12) (v := .ref q160) (ty := .array (.int)) (C := RX12) (T := TX12) (N := 172) hx hb hts inq_X12_init_c12 tyX12 tyX12_ok nmX12 hown hK hP_629 hD_630 hS_628 0 rfl rfl 119 (by decide) (hts (.fieldLink RX12 257 "DiskEvidenceModel" "pointParent" "[I") (List.mem_of_getElem? (i := 91) rfl)) (fun _ h9 => h9) rfl hin rfl (by decide +kernel) rfl rfl (by rw [hfl_159]; decide) dX12_init_685 (fun H_631 locs_631 hP_631 hD_631 hS_631 => ?_)
  clear hP_629 hD_630 hS_628
  have hP_632 : va_P (dC, dI) vwCl [(h0, .inr (12, (fs_159.set 119 (.ref q160)))), (q1, .inl (cI, 4000, (.inl (fun _ => 0)))), (q3, .inl (cI, 6, (.inl (fun _ => 0)))), (q5, .inl (cI, 49152, (.inl (fun _ => 0)))), (q7, .inl (cZ, 768, (.inl (fun _ => 0)))), (q160, .inl (cI, 960, (.inl (fun _ => 0))))] H_631 := hP_631
  clear hP_631
  have hD_633 : va_D A [(h0, .inr (12, (fs_159.set 119 (.ref q160)))), (q1, .inl (cI, 4000, (.inl (fun _ => 0)))), (q3, .inl (cI, 6, (.inl (fun _ => 0)))), (q5, .inl (cI, 49152, (.inl (fun _ => 0)))), (q7, .inl (cZ, 768, (.inl (fun _ => 0)))), (q160, .inl (cI, 960, (.inl (fun _ => 0))))] := hD_631
  clear hD_631
  obtain ⟨fs_161, efs_161⟩ : ∃ y, y = (fs_159.set 119 (.ref q160)) := ⟨_, rfl⟩
  rw [← efs_161] at hP_632 hD_633
  have hfl_161 : fs_161.length = 172 := by rw [efs_161, List.length_set]; exact hfl_159
  clear hfl_159
  have hP_634 := hP_632.sub (ws' := [(h0, .inr (12, fs_161)), (q1, .inl (cI, 4000, (.inl (fun _ => 0)))), (q3, .inl (cI, 6, (.inl (fun _ => 0)))), (q5, .inl (cI, 49152, (.inl (fun _ => 0)))), (q7, .inl (cZ, 768, (.inl (fun _ => 0))))]) [0, 1, 2, 3, 4] rfl
  clear hP_632
  have hD_635 := hD_633.sub (ws' := [(h0, .inr (12, fs_161)), (q1, .inl (cI, 4000, (.inl (fun _ => 0)))), (q3, .inl (cI, 6, (.inl (fun _ => 0)))), (q5, .inl (cI, 49152, (.inl (fun _ => 0)))), (q7, .inl (cZ, 768, (.inl (fun _ => 0))))]) [0, 1, 2, 3, 4] (by decide) rfl
  clear hD_633
  refine lv_aload_n hx hb dX12_init_688 rfl (lv_at hl 0 rfl) ?_
  refine lv_sipush (v := 1100) hx hb dX12_init_689 (by decide) ?_
  refine nw_arr (atype := .int) (N' := 1100) (a0 := (1100, (.inl (fun _ => 0)))) hx hb (hts (.arrayClass .int) (List.mem_of_getElem? (i := 4) rfl)) rfl hK 0 (cI := cI) rfl hP_634 hD_635 hS_631 hA (fun _ => rfl) (by decide) (by decide) (by decide) (Nat.le_of_ble_eq_true rfl) (Nat.le_of_ble_eq_true rfl) dX12_init_692 (fun q162 H_636 hP_636 hD_636 hS_636 => ?_)
  clear hP_634 hD_635 hS_631
  have hP_637 : va_P (dC, dI) vwCl [(h0, .inr (12, fs_161)), (q1, .inl (cI, 4000, (.inl (fun _ => 0)))), (q3, .inl (cI, 6, (.inl (fun _ => 0)))), (q5, .inl (cI, 49152, (.inl (fun _ => 0)))), (q7, .inl (cZ, 768, (.inl (fun _ => 0)))), (q162, .inl (cI, 1100, (.inl (fun _ => 0))))] H_636 := hP_636
  clear hP_636
  have hD_638 : va_D A [(h0, .inr (12, fs_161)), (q1, .inl (cI, 4000, (.inl (fun _ => 0)))), (q3, .inl (cI, 6, (.inl (fun _ => 0)))), (q5, .inl (cI, 49152, (.inl (fun _ => 0)))), (q7, .inl (cZ, 768, (.inl (fun _ => 0)))), (q162, .inl (cI, 1100, (.inl (fun _ => 0))))] := hD_636
  clear hD_636
  refine W.widen (k := 81) (n := 693506) (by decide) (by decide) ?_
  refine va_putF (D := (dC, dI)) (ci := 12) (v := .ref q162) (ty := .array (.int)) (C := RX12) (T := TX12) (N := 172) hx hb hts inq_X12_init_c12 tyX12 tyX12_ok nmX12 hown hK hP_637 hD_638 hS_636 0 rfl rfl 121 (by decide) (hts (.fieldLink RX12 260 "DiskEvidenceModel" "packAt" "[I") (List.mem_of_getElem? (i := 92) rfl)) (fun _ h9 => h9) rfl hin rfl (by decide +kernel) rfl rfl (by rw [hfl_161]; decide) dX12_init_694 (fun H_639 locs_639 hP_639 hD_639 hS_639 => ?_)
  clear hP_637 hD_638 hS_636
  have hP_640 : va_P (dC, dI) vwCl [(h0, .inr (12, (fs_161.set 121 (.ref q162)))), (q1, .inl (cI, 4000, (.inl (fun _ => 0)))), (q3, .inl (cI, 6, (.inl (fun _ => 0)))), (q5, .inl (cI, 49152, (.inl (fun _ => 0)))), (q7, .inl (cZ, 768, (.inl (fun _ => 0)))), (q162, .inl (cI, 1100, (.inl (fun _ => 0))))] H_639 := hP_639
  clear hP_639
  have hD_641 : va_D A [(h0, .inr (12, (fs_161.set 121 (.ref q162)))), (q1, .inl (cI, 4000, (.inl (fun _ => 0)))), (q3, .inl (cI, 6, (.inl (fun _ => 0)))), (q5, .inl (cI, 49152, (.inl (fun _ => 0)))), (q7, .inl (cZ, 768, (.inl (fun _ => 0)))), (q162, .inl (cI, 1100, (.inl (fun _ => 0))))] := hD_639
  clear hD_639
  obtain ⟨fs_163, efs_163⟩ : ∃ y, y = (fs_161.set 121 (.ref q162)) := ⟨_, rfl⟩
  rw [← efs_163] at hP_640 hD_641
  have hfl_163 : fs_163.length = 172 := by rw [efs_163, List.length_set]; exact hfl_161
  clear hfl_161
  have hP_642 := hP_640.sub (ws' := [(h0, .inr (12, fs_163)), (q1, .inl (cI, 4000, (.inl (fun _ => 0)))), (q3, .inl (cI, 6, (.inl (fun _ => 0)))), (q5, .inl (cI, 49152, (.inl (fun _ => 0)))), (q7, .inl (cZ, 768, (.inl (fun _ => 0))))]) [0, 1, 2, 3, 4] rfl
  clear hP_640
  have hD_643 := hD_641.sub (ws' := [(h0, .inr (12, fs_163)), (q1, .inl (cI, 4000, (.inl (fun _ => 0)))), (q3, .inl (cI, 6, (.inl (fun _ => 0)))), (q5, .inl (cI, 49152, (.inl (fun _ => 0)))), (q7, .inl (cZ, 768, (.inl (fun _ => 0))))]) [0, 1, 2, 3, 4] (by decide) rfl
  clear hD_641
  refine lv_aload_n hx hb dX12_init_697 rfl (lv_at hl 0 rfl) ?_
  refine lv_bipush (v := 60) hx hb dX12_init_698 (by decide) ?_
  refine nw_arr (atype := .boolean) (N' := 60) (a0 := (60, (.inl (fun _ => 0)))) hx hb (hts (.arrayClass .boolean) (List.mem_of_getElem? (i := 9) rfl)) rfl hK 2 (cI := cZ) rfl hP_642 hD_643 hS_639 hA (fun _ => rfl) (by decide) (by decide) (by decide) (Nat.le_of_ble_eq_true rfl) (Nat.le_of_ble_eq_true rfl) dX12_init_700 (fun q164 H_644 hP_644 hD_644 hS_644 => ?_)
  clear hP_642 hD_643 hS_639
  have hP_645 : va_P (dC, dI) vwCl [(h0, .inr (12, fs_163)), (q1, .inl (cI, 4000, (.inl (fun _ => 0)))), (q3, .inl (cI, 6, (.inl (fun _ => 0)))), (q5, .inl (cI, 49152, (.inl (fun _ => 0)))), (q7, .inl (cZ, 768, (.inl (fun _ => 0)))), (q164, .inl (cZ, 60, (.inl (fun _ => 0))))] H_644 := hP_644
  clear hP_644
  have hD_646 : va_D A [(h0, .inr (12, fs_163)), (q1, .inl (cI, 4000, (.inl (fun _ => 0)))), (q3, .inl (cI, 6, (.inl (fun _ => 0)))), (q5, .inl (cI, 49152, (.inl (fun _ => 0)))), (q7, .inl (cZ, 768, (.inl (fun _ => 0)))), (q164, .inl (cZ, 60, (.inl (fun _ => 0))))] := hD_644
  clear hD_644
  refine W.widen (k := 82) (n := 693566) (by decide) (by decide) ?_
  refine va_putF (D := (dC, dI)) (ci := 12) (v := .ref q164) (ty := .array (.boolean)) (C := RX12) (T := TX12) (N := 172) hx hb hts inq_X12_init_c12 tyX12 tyX12_ok nmX12 hown hK hP_645 hD_646 hS_644 0 rfl rfl 123 (by decide) (hts (.fieldLink RX12 263 "DiskEvidenceModel" "isHad" "[Z") (List.mem_of_getElem? (i := 93) rfl)) (fun _ h9 => h9) rfl hin rfl (by decide +kernel) rfl rfl (by rw [hfl_163]; decide) dX12_init_702 (fun H_647 locs_647 hP_647 hD_647 hS_647 => ?_)
  clear hP_645 hD_646 hS_644
  have hP_648 : va_P (dC, dI) vwCl [(h0, .inr (12, (fs_163.set 123 (.ref q164)))), (q1, .inl (cI, 4000, (.inl (fun _ => 0)))), (q3, .inl (cI, 6, (.inl (fun _ => 0)))), (q5, .inl (cI, 49152, (.inl (fun _ => 0)))), (q7, .inl (cZ, 768, (.inl (fun _ => 0)))), (q164, .inl (cZ, 60, (.inl (fun _ => 0))))] H_647 := hP_647
  clear hP_647
  have hD_649 : va_D A [(h0, .inr (12, (fs_163.set 123 (.ref q164)))), (q1, .inl (cI, 4000, (.inl (fun _ => 0)))), (q3, .inl (cI, 6, (.inl (fun _ => 0)))), (q5, .inl (cI, 49152, (.inl (fun _ => 0)))), (q7, .inl (cZ, 768, (.inl (fun _ => 0)))), (q164, .inl (cZ, 60, (.inl (fun _ => 0))))] := hD_647
  clear hD_647
  obtain ⟨fs_165, efs_165⟩ : ∃ y, y = (fs_163.set 123 (.ref q164)) := ⟨_, rfl⟩
  rw [← efs_165] at hP_648 hD_649
  have hfl_165 : fs_165.length = 172 := by rw [efs_165, List.length_set]; exact hfl_163
  clear hfl_163
  have hP_650 := hP_648.sub (ws' := [(h0, .inr (12, fs_165)), (q1, .inl (cI, 4000, (.inl (fun _ => 0)))), (q3, .inl (cI, 6, (.inl (fun _ => 0)))), (q5, .inl (cI, 49152, (.inl (fun _ => 0)))), (q7, .inl (cZ, 768, (.inl (fun _ => 0))))]) [0, 1, 2, 3, 4] rfl
  clear hP_648
  have hD_651 := hD_649.sub (ws' := [(h0, .inr (12, fs_165)), (q1, .inl (cI, 4000, (.inl (fun _ => 0)))), (q3, .inl (cI, 6, (.inl (fun _ => 0)))), (q5, .inl (cI, 49152, (.inl (fun _ => 0)))), (q7, .inl (cZ, 768, (.inl (fun _ => 0))))]) [0, 1, 2, 3, 4] (by decide) rfl
  clear hD_649
  refine lv_aload_n hx hb dX12_init_705 rfl (lv_at hl 0 rfl) ?_
  refine lv_sipush (v := 200) hx hb dX12_init_706 (by decide) ?_
  refine nw_arr (atype := .int) (N' := 200) (a0 := (200, (.inl (fun _ => 0)))) hx hb (hts (.arrayClass .int) (List.mem_of_getElem? (i := 4) rfl)) rfl hK 0 (cI := cI) rfl hP_650 hD_651 hS_647 hA (fun _ => rfl) (by decide) (by decide) (by decide) (Nat.le_of_ble_eq_true rfl) (Nat.le_of_ble_eq_true rfl) dX12_init_709 (fun q166 H_652 hP_652 hD_652 hS_652 => ?_)
  clear hP_650 hD_651 hS_647
  have hP_653 : va_P (dC, dI) vwCl [(h0, .inr (12, fs_165)), (q1, .inl (cI, 4000, (.inl (fun _ => 0)))), (q3, .inl (cI, 6, (.inl (fun _ => 0)))), (q5, .inl (cI, 49152, (.inl (fun _ => 0)))), (q7, .inl (cZ, 768, (.inl (fun _ => 0)))), (q166, .inl (cI, 200, (.inl (fun _ => 0))))] H_652 := hP_652
  clear hP_652
  have hD_654 : va_D A [(h0, .inr (12, fs_165)), (q1, .inl (cI, 4000, (.inl (fun _ => 0)))), (q3, .inl (cI, 6, (.inl (fun _ => 0)))), (q5, .inl (cI, 49152, (.inl (fun _ => 0)))), (q7, .inl (cZ, 768, (.inl (fun _ => 0)))), (q166, .inl (cI, 200, (.inl (fun _ => 0))))] := hD_652
  clear hD_652
  refine W.widen (k := 83) (n := 693766) (by decide) (by decide) ?_
  refine va_putF (D := (dC, dI)) (ci := 12) (v := .ref q166) (ty := .array (.int)) (C := RX12) (T := TX12) (N := 172) hx hb hts inq_X12_init_c12 tyX12 tyX12_ok nmX12 hown hK hP_653 hD_654 hS_652 0 rfl rfl 125 (by decide) (hts (.fieldLink RX12 266 "DiskEvidenceModel" "hitFile" "[I") (List.mem_of_getElem? (i := 94) rfl)) (fun _ h9 => h9) rfl hin rfl (by decide +kernel) rfl rfl (by rw [hfl_165]; decide) dX12_init_711 (fun H_655 locs_655 hP_655 hD_655 hS_655 => ?_)
  clear hP_653 hD_654 hS_652
  have hP_656 : va_P (dC, dI) vwCl [(h0, .inr (12, (fs_165.set 125 (.ref q166)))), (q1, .inl (cI, 4000, (.inl (fun _ => 0)))), (q3, .inl (cI, 6, (.inl (fun _ => 0)))), (q5, .inl (cI, 49152, (.inl (fun _ => 0)))), (q7, .inl (cZ, 768, (.inl (fun _ => 0)))), (q166, .inl (cI, 200, (.inl (fun _ => 0))))] H_655 := hP_655
  clear hP_655
  have hD_657 : va_D A [(h0, .inr (12, (fs_165.set 125 (.ref q166)))), (q1, .inl (cI, 4000, (.inl (fun _ => 0)))), (q3, .inl (cI, 6, (.inl (fun _ => 0)))), (q5, .inl (cI, 49152, (.inl (fun _ => 0)))), (q7, .inl (cZ, 768, (.inl (fun _ => 0)))), (q166, .inl (cI, 200, (.inl (fun _ => 0))))] := hD_655
  clear hD_655
  obtain ⟨fs_167, efs_167⟩ : ∃ y, y = (fs_165.set 125 (.ref q166)) := ⟨_, rfl⟩
  rw [← efs_167] at hP_656 hD_657
  have hfl_167 : fs_167.length = 172 := by rw [efs_167, List.length_set]; exact hfl_165
  clear hfl_165
  have el_167 : fs_167 = [.int 0, .ref q1, .int 0, .int 0, .ref q3, .ref q5, .ref q7, .int 0, .ref q9, .ref q11, .ref q13, .ref q15, .ref q17, .ref q19, .ref q21, .int 1, .int 0, .ref q24, .ref q26, .int 0, .int 0, .ref q28, .ref q30, .ref q32, .ref q34, .ref q36, .int 0, .ref q38, .ref q40, .int 0, .int 0, .ref q42, .ref q44, .ref q46, .int 0, .ref q48, .ref q50, .ref q52, .ref q54, .int 0, .int 0, .int 0, .int 0, .int 0, .int 0, .int 0, .int 0, .int 0, .int 0, .int 0, .ref q56, .ref q58, .int 0, .int 0, .ref q60, .int 0, .int 0, .int 0, .int 0, .int 0, .ref q62, .ref q64, .ref q66, .ref q68, .ref q70, .ref q72, .ref q74, .ref q76, .ref q78, .ref q80, .ref q82, .ref q84, .ref q86, .ref q88, .ref q90, .ref q92, .ref q94, .ref q96, .ref q98, .ref q100, .ref q102, .ref q104, .ref q106, .ref q108, .ref q110, .ref q112, .ref q114, .ref q116, .ref q118, .ref q120, .ref q122, .int 0, .int 0, .int 0, .ref q124, .ref q126, .ref q128, .int 0, .ref q130, .ref q132, .ref q134, .ref q136, .int 0, .ref q138, .ref q140, .ref q142, .int 0, .int 0, .int 0, .int 0, .int 0, .ref q144, .ref q146, .ref q148, .ref q150, .ref q152, .ref q154, .ref q156, .ref q158, .ref q160, .int 0, .ref q162, .int 0, .ref q164, .int 0, .ref q166, .null, .null, .int 0, .int 0, .null, .null, .null, .null, .null, .int 0, .int 0, .int 0, .null, .int 0, .null, .int 0, .null, .null, .null, .null, .int 0, .int 0, .null, .int 0, .null, .int 0, .null, .null, .null, .null, .null, .int 0, .null, .null, .null, .int 0, .null, .null, .null, .null, .null, .int 0, .null, .null, .null, .null] := by rw [efs_167, efs_165, efs_163, efs_161, efs_159, efs_157, efs_155, efs_153, efs_151, efs_149, efs_147, efs_145, el_143]; rfl
  clear efs_145 efs_147 efs_149 efs_151 efs_153 efs_155 efs_157 efs_159 efs_161 efs_163 efs_165 efs_167 el_143
  have hP_658 := hP_656.sub (ws' := [(h0, .inr (12, fs_167)), (q1, .inl (cI, 4000, (.inl (fun _ => 0)))), (q3, .inl (cI, 6, (.inl (fun _ => 0)))), (q5, .inl (cI, 49152, (.inl (fun _ => 0)))), (q7, .inl (cZ, 768, (.inl (fun _ => 0))))]) [0, 1, 2, 3, 4] rfl
  clear hP_656
  have hD_659 := hD_657.sub (ws' := [(h0, .inr (12, fs_167)), (q1, .inl (cI, 4000, (.inl (fun _ => 0)))), (q3, .inl (cI, 6, (.inl (fun _ => 0)))), (q5, .inl (cI, 49152, (.inl (fun _ => 0)))), (q7, .inl (cZ, 768, (.inl (fun _ => 0))))]) [0, 1, 2, 3, 4] (by decide) rfl
  clear hD_657
  refine lv_aload_n hx hb dX12_init_714 rfl (lv_at hl 0 rfl) ?_
  refine lv_sipush (v := 200) hx hb dX12_init_715 (by decide) ?_
  refine nw_arr (atype := .int) (N' := 200) (a0 := (200, (.inl (fun _ => 0)))) hx hb (hts (.arrayClass .int) (List.mem_of_getElem? (i := 4) rfl)) rfl hK 0 (cI := cI) rfl hP_658 hD_659 hS_655 hA (fun _ => rfl) (by decide) (by decide) (by decide) (Nat.le_of_ble_eq_true rfl) (Nat.le_of_ble_eq_true rfl) dX12_init_718 (fun q168 H_660 hP_660 hD_660 hS_660 => ?_)
  clear hP_658 hD_659 hS_655
  have hP_661 : va_P (dC, dI) vwCl [(h0, .inr (12, fs_167)), (q1, .inl (cI, 4000, (.inl (fun _ => 0)))), (q3, .inl (cI, 6, (.inl (fun _ => 0)))), (q5, .inl (cI, 49152, (.inl (fun _ => 0)))), (q7, .inl (cZ, 768, (.inl (fun _ => 0)))), (q168, .inl (cI, 200, (.inl (fun _ => 0))))] H_660 := hP_660
  clear hP_660
  have hD_662 : va_D A [(h0, .inr (12, fs_167)), (q1, .inl (cI, 4000, (.inl (fun _ => 0)))), (q3, .inl (cI, 6, (.inl (fun _ => 0)))), (q5, .inl (cI, 49152, (.inl (fun _ => 0)))), (q7, .inl (cZ, 768, (.inl (fun _ => 0)))), (q168, .inl (cI, 200, (.inl (fun _ => 0))))] := hD_660
  clear hD_660
  refine W.widen (k := 84) (n := 693966) (by decide) (by decide) ?_
  refine va_putF (D := (dC, dI)) (ci := 12) (v := .ref q168) (ty := .array (.int)) (C := RX12) (T := TX12) (N := 172) hx hb hts inq_X12_init_c12 tyX12 tyX12_ok nmX12 hown hK hP_661 hD_662 hS_660 0 rfl rfl 126 (by decide) (hts (.fieldLink RX12 269 "DiskEvidenceModel" "hitAt" "[I") (List.mem_of_getElem? (i := 95) rfl)) (fun _ h9 => h9) rfl hin rfl (by decide +kernel) rfl rfl (by rw [hfl_167]; decide) dX12_init_720 (fun H_663 locs_663 hP_663 hD_663 hS_663 => ?_)
  clear hP_661 hD_662 hS_660
  have hP_664 : va_P (dC, dI) vwCl [(h0, .inr (12, (fs_167.set 126 (.ref q168)))), (q1, .inl (cI, 4000, (.inl (fun _ => 0)))), (q3, .inl (cI, 6, (.inl (fun _ => 0)))), (q5, .inl (cI, 49152, (.inl (fun _ => 0)))), (q7, .inl (cZ, 768, (.inl (fun _ => 0)))), (q168, .inl (cI, 200, (.inl (fun _ => 0))))] H_663 := hP_663
  clear hP_663
  have hD_665 : va_D A [(h0, .inr (12, (fs_167.set 126 (.ref q168)))), (q1, .inl (cI, 4000, (.inl (fun _ => 0)))), (q3, .inl (cI, 6, (.inl (fun _ => 0)))), (q5, .inl (cI, 49152, (.inl (fun _ => 0)))), (q7, .inl (cZ, 768, (.inl (fun _ => 0)))), (q168, .inl (cI, 200, (.inl (fun _ => 0))))] := hD_663
  clear hD_663
  obtain ⟨fs_169, efs_169⟩ : ∃ y, y = (fs_167.set 126 (.ref q168)) := ⟨_, rfl⟩
  rw [← efs_169] at hP_664 hD_665
  have hfl_169 : fs_169.length = 172 := by rw [efs_169, List.length_set]; exact hfl_167
  clear hfl_167
  have hP_666 := hP_664.sub (ws' := [(h0, .inr (12, fs_169)), (q1, .inl (cI, 4000, (.inl (fun _ => 0)))), (q3, .inl (cI, 6, (.inl (fun _ => 0)))), (q5, .inl (cI, 49152, (.inl (fun _ => 0)))), (q7, .inl (cZ, 768, (.inl (fun _ => 0))))]) [0, 1, 2, 3, 4] rfl
  clear hP_664
  have hD_667 := hD_665.sub (ws' := [(h0, .inr (12, fs_169)), (q1, .inl (cI, 4000, (.inl (fun _ => 0)))), (q3, .inl (cI, 6, (.inl (fun _ => 0)))), (q5, .inl (cI, 49152, (.inl (fun _ => 0)))), (q7, .inl (cZ, 768, (.inl (fun _ => 0))))]) [0, 1, 2, 3, 4] (by decide) rfl
  clear hD_665
  refine lv_aload_n hx hb dX12_init_723 rfl (lv_at hl 0 rfl) ?_
  refine lv_sipush (v := 200) hx hb dX12_init_724 (by decide) ?_
  refine nw_arr (atype := .int) (N' := 200) (a0 := (200, (.inl (fun _ => 0)))) hx hb (hts (.arrayClass .int) (List.mem_of_getElem? (i := 4) rfl)) rfl hK 0 (cI := cI) rfl hP_666 hD_667 hS_663 hA (fun _ => rfl) (by decide) (by decide) (by decide) (Nat.le_of_ble_eq_true rfl) (Nat.le_of_ble_eq_true rfl) dX12_init_727 (fun q170 H_668 hP_668 hD_668 hS_668 => ?_)
  clear hP_666 hD_667 hS_663
  have hP_669 : va_P (dC, dI) vwCl [(h0, .inr (12, fs_169)), (q1, .inl (cI, 4000, (.inl (fun _ => 0)))), (q3, .inl (cI, 6, (.inl (fun _ => 0)))), (q5, .inl (cI, 49152, (.inl (fun _ => 0)))), (q7, .inl (cZ, 768, (.inl (fun _ => 0)))), (q170, .inl (cI, 200, (.inl (fun _ => 0))))] H_668 := hP_668
  clear hP_668
  have hD_670 : va_D A [(h0, .inr (12, fs_169)), (q1, .inl (cI, 4000, (.inl (fun _ => 0)))), (q3, .inl (cI, 6, (.inl (fun _ => 0)))), (q5, .inl (cI, 49152, (.inl (fun _ => 0)))), (q7, .inl (cZ, 768, (.inl (fun _ => 0)))), (q170, .inl (cI, 200, (.inl (fun _ => 0))))] := hD_668
  clear hD_668
  refine W.widen (k := 85) (n := 694166) (by decide) (by decide) ?_
  refine va_putF (D := (dC, dI)) (ci := 12) (v := .ref q170) (ty := .array (.int)) (C := RX12) (T := TX12) (N := 172) hx hb hts inq_X12_init_c12 tyX12 tyX12_ok nmX12 hown hK hP_669 hD_670 hS_668 0 rfl rfl 127 (by decide) (hts (.fieldLink RX12 272 "DiskEvidenceModel" "hitMany" "[I") (List.mem_of_getElem? (i := 96) rfl)) (fun _ h9 => h9) rfl hin rfl (by decide +kernel) rfl rfl (by rw [hfl_169]; decide) dX12_init_729 (fun H_671 locs_671 hP_671 hD_671 hS_671 => ?_)
  clear hP_669 hD_670 hS_668
  have hP_672 : va_P (dC, dI) vwCl [(h0, .inr (12, (fs_169.set 127 (.ref q170)))), (q1, .inl (cI, 4000, (.inl (fun _ => 0)))), (q3, .inl (cI, 6, (.inl (fun _ => 0)))), (q5, .inl (cI, 49152, (.inl (fun _ => 0)))), (q7, .inl (cZ, 768, (.inl (fun _ => 0)))), (q170, .inl (cI, 200, (.inl (fun _ => 0))))] H_671 := hP_671
  clear hP_671
  have hD_673 : va_D A [(h0, .inr (12, (fs_169.set 127 (.ref q170)))), (q1, .inl (cI, 4000, (.inl (fun _ => 0)))), (q3, .inl (cI, 6, (.inl (fun _ => 0)))), (q5, .inl (cI, 49152, (.inl (fun _ => 0)))), (q7, .inl (cZ, 768, (.inl (fun _ => 0)))), (q170, .inl (cI, 200, (.inl (fun _ => 0))))] := hD_671
  clear hD_671
  obtain ⟨fs_171, efs_171⟩ : ∃ y, y = (fs_169.set 127 (.ref q170)) := ⟨_, rfl⟩
  rw [← efs_171] at hP_672 hD_673
  have hfl_171 : fs_171.length = 172 := by rw [efs_171, List.length_set]; exact hfl_169
  clear hfl_169
  have hP_674 := hP_672.sub (ws' := [(h0, .inr (12, fs_171)), (q1, .inl (cI, 4000, (.inl (fun _ => 0)))), (q3, .inl (cI, 6, (.inl (fun _ => 0)))), (q5, .inl (cI, 49152, (.inl (fun _ => 0)))), (q7, .inl (cZ, 768, (.inl (fun _ => 0))))]) [0, 1, 2, 3, 4] rfl
  clear hP_672
  have hD_675 := hD_673.sub (ws' := [(h0, .inr (12, fs_171)), (q1, .inl (cI, 4000, (.inl (fun _ => 0)))), (q3, .inl (cI, 6, (.inl (fun _ => 0)))), (q5, .inl (cI, 49152, (.inl (fun _ => 0)))), (q7, .inl (cZ, 768, (.inl (fun _ => 0))))]) [0, 1, 2, 3, 4] (by decide) rfl
  clear hD_673
  refine lv_aload_n hx hb dX12_init_732 rfl (lv_at hl 0 rfl) ?_
  refine lv_sipush (v := 4096) hx hb dX12_init_733 (by decide) ?_
  refine nw_arr (atype := .boolean) (N' := 4096) (a0 := (4096, (.inl (fun _ => 0)))) hx hb (hts (.arrayClass .boolean) (List.mem_of_getElem? (i := 9) rfl)) rfl hK 2 (cI := cZ) rfl hP_674 hD_675 hS_671 hA (fun _ => rfl) (by decide) (by decide) (by decide) (Nat.le_of_ble_eq_true rfl) (Nat.le_of_ble_eq_true rfl) dX12_init_736 (fun q172 H_676 hP_676 hD_676 hS_676 => ?_)
  clear hP_674 hD_675 hS_671
  have hP_677 : va_P (dC, dI) vwCl [(h0, .inr (12, fs_171)), (q1, .inl (cI, 4000, (.inl (fun _ => 0)))), (q3, .inl (cI, 6, (.inl (fun _ => 0)))), (q5, .inl (cI, 49152, (.inl (fun _ => 0)))), (q7, .inl (cZ, 768, (.inl (fun _ => 0)))), (q172, .inl (cZ, 4096, (.inl (fun _ => 0))))] H_676 := hP_676
  clear hP_676
  have hD_678 : va_D A [(h0, .inr (12, fs_171)), (q1, .inl (cI, 4000, (.inl (fun _ => 0)))), (q3, .inl (cI, 6, (.inl (fun _ => 0)))), (q5, .inl (cI, 49152, (.inl (fun _ => 0)))), (q7, .inl (cZ, 768, (.inl (fun _ => 0)))), (q172, .inl (cZ, 4096, (.inl (fun _ => 0))))] := hD_676
  clear hD_676
  refine W.widen (k := 86) (n := 698262) (by decide) (by decide) ?_
  refine va_putF (D := (dC, dI)) (ci := 12) (v := .ref q172) (ty := .array (.boolean)) (C := RX12) (T := TX12) (N := 172) hx hb hts inq_X12_init_c12 tyX12 tyX12_ok nmX12 hown hK hP_677 hD_678 hS_676 0 rfl rfl 130 (by decide) (hts (.fieldLink RX12 275 "DiskEvidenceModel" "takes" "[Z") (List.mem_of_getElem? (i := 97) rfl)) (fun _ h9 => h9) rfl hin rfl (by decide +kernel) rfl rfl (by rw [hfl_171]; decide) dX12_init_738 (fun H_679 locs_679 hP_679 hD_679 hS_679 => ?_)
  clear hP_677 hD_678 hS_676
  have hP_680 : va_P (dC, dI) vwCl [(h0, .inr (12, (fs_171.set 130 (.ref q172)))), (q1, .inl (cI, 4000, (.inl (fun _ => 0)))), (q3, .inl (cI, 6, (.inl (fun _ => 0)))), (q5, .inl (cI, 49152, (.inl (fun _ => 0)))), (q7, .inl (cZ, 768, (.inl (fun _ => 0)))), (q172, .inl (cZ, 4096, (.inl (fun _ => 0))))] H_679 := hP_679
  clear hP_679
  have hD_681 : va_D A [(h0, .inr (12, (fs_171.set 130 (.ref q172)))), (q1, .inl (cI, 4000, (.inl (fun _ => 0)))), (q3, .inl (cI, 6, (.inl (fun _ => 0)))), (q5, .inl (cI, 49152, (.inl (fun _ => 0)))), (q7, .inl (cZ, 768, (.inl (fun _ => 0)))), (q172, .inl (cZ, 4096, (.inl (fun _ => 0))))] := hD_679
  clear hD_679
  obtain ⟨fs_173, efs_173⟩ : ∃ y, y = (fs_171.set 130 (.ref q172)) := ⟨_, rfl⟩
  rw [← efs_173] at hP_680 hD_681
  have hfl_173 : fs_173.length = 172 := by rw [efs_173, List.length_set]; exact hfl_171
  clear hfl_171
  have hP_682 := hP_680.sub (ws' := [(h0, .inr (12, fs_173)), (q1, .inl (cI, 4000, (.inl (fun _ => 0)))), (q3, .inl (cI, 6, (.inl (fun _ => 0)))), (q5, .inl (cI, 49152, (.inl (fun _ => 0)))), (q7, .inl (cZ, 768, (.inl (fun _ => 0))))]) [0, 1, 2, 3, 4] rfl
  clear hP_680
  have hD_683 := hD_681.sub (ws' := [(h0, .inr (12, fs_173)), (q1, .inl (cI, 4000, (.inl (fun _ => 0)))), (q3, .inl (cI, 6, (.inl (fun _ => 0)))), (q5, .inl (cI, 49152, (.inl (fun _ => 0)))), (q7, .inl (cZ, 768, (.inl (fun _ => 0))))]) [0, 1, 2, 3, 4] (by decide) rfl
  clear hD_681
  refine lv_aload_n hx hb dX12_init_741 rfl (lv_at hl 0 rfl) ?_
  refine lv_bipush (v := 16) hx hb dX12_init_742 (by decide) ?_
  refine nw_arr (atype := .int) (N' := 16) (a0 := (16, (.inl (fun _ => 0)))) hx hb (hts (.arrayClass .int) (List.mem_of_getElem? (i := 4) rfl)) rfl hK 0 (cI := cI) rfl hP_682 hD_683 hS_679 hA (fun _ => rfl) (by decide) (by decide) (by decide) (Nat.le_of_ble_eq_true rfl) (Nat.le_of_ble_eq_true rfl) dX12_init_744 (fun q174 H_684 hP_684 hD_684 hS_684 => ?_)
  clear hP_682 hD_683 hS_679
  have hP_685 : va_P (dC, dI) vwCl [(h0, .inr (12, fs_173)), (q1, .inl (cI, 4000, (.inl (fun _ => 0)))), (q3, .inl (cI, 6, (.inl (fun _ => 0)))), (q5, .inl (cI, 49152, (.inl (fun _ => 0)))), (q7, .inl (cZ, 768, (.inl (fun _ => 0)))), (q174, .inl (cI, 16, (.inl (fun _ => 0))))] H_684 := hP_684
  clear hP_684
  have hD_686 : va_D A [(h0, .inr (12, fs_173)), (q1, .inl (cI, 4000, (.inl (fun _ => 0)))), (q3, .inl (cI, 6, (.inl (fun _ => 0)))), (q5, .inl (cI, 49152, (.inl (fun _ => 0)))), (q7, .inl (cZ, 768, (.inl (fun _ => 0)))), (q174, .inl (cI, 16, (.inl (fun _ => 0))))] := hD_684
  clear hD_684
  refine W.widen (k := 87) (n := 698278) (by decide) (by decide) ?_
  refine va_putF (D := (dC, dI)) (ci := 12) (v := .ref q174) (ty := .array (.int)) (C := RX12) (T := TX12) (N := 172) hx hb hts inq_X12_init_c12 tyX12 tyX12_ok nmX12 hown hK hP_685 hD_686 hS_684 0 rfl rfl 131 (by decide) (hts (.fieldLink RX12 278 "DiskEvidenceModel" "often" "[I") (List.mem_of_getElem? (i := 98) rfl)) (fun _ h9 => h9) rfl hin rfl (by decide +kernel) rfl rfl (by rw [hfl_173]; decide) dX12_init_746 (fun H_687 locs_687 hP_687 hD_687 hS_687 => ?_)
  clear hP_685 hD_686 hS_684
  have hP_688 : va_P (dC, dI) vwCl [(h0, .inr (12, (fs_173.set 131 (.ref q174)))), (q1, .inl (cI, 4000, (.inl (fun _ => 0)))), (q3, .inl (cI, 6, (.inl (fun _ => 0)))), (q5, .inl (cI, 49152, (.inl (fun _ => 0)))), (q7, .inl (cZ, 768, (.inl (fun _ => 0)))), (q174, .inl (cI, 16, (.inl (fun _ => 0))))] H_687 := hP_687
  clear hP_687
  have hD_689 : va_D A [(h0, .inr (12, (fs_173.set 131 (.ref q174)))), (q1, .inl (cI, 4000, (.inl (fun _ => 0)))), (q3, .inl (cI, 6, (.inl (fun _ => 0)))), (q5, .inl (cI, 49152, (.inl (fun _ => 0)))), (q7, .inl (cZ, 768, (.inl (fun _ => 0)))), (q174, .inl (cI, 16, (.inl (fun _ => 0))))] := hD_687
  clear hD_687
  obtain ⟨fs_175, efs_175⟩ : ∃ y, y = (fs_173.set 131 (.ref q174)) := ⟨_, rfl⟩
  rw [← efs_175] at hP_688 hD_689
  have hfl_175 : fs_175.length = 172 := by rw [efs_175, List.length_set]; exact hfl_173
  clear hfl_173
  have hP_690 := hP_688.sub (ws' := [(h0, .inr (12, fs_175)), (q1, .inl (cI, 4000, (.inl (fun _ => 0)))), (q3, .inl (cI, 6, (.inl (fun _ => 0)))), (q5, .inl (cI, 49152, (.inl (fun _ => 0)))), (q7, .inl (cZ, 768, (.inl (fun _ => 0))))]) [0, 1, 2, 3, 4] rfl
  clear hP_688
  have hD_691 := hD_689.sub (ws' := [(h0, .inr (12, fs_175)), (q1, .inl (cI, 4000, (.inl (fun _ => 0)))), (q3, .inl (cI, 6, (.inl (fun _ => 0)))), (q5, .inl (cI, 49152, (.inl (fun _ => 0)))), (q7, .inl (cZ, 768, (.inl (fun _ => 0))))]) [0, 1, 2, 3, 4] (by decide) rfl
  clear hD_689
  refine lv_aload_n hx hb dX12_init_749 rfl (lv_at hl 0 rfl) ?_
  refine lv_bipush (v := 66) hx hb dX12_init_750 (by decide) ?_
  refine nw_arr (atype := .char) (N' := 66) (a0 := (66, (.inl (fun _ => 0)))) hx hb (hts (.arrayClass .char) (List.mem_of_getElem? (i := 99) rfl)) rfl hK 4 (cI := cC) rfl hP_690 hD_691 hS_687 hA (fun _ => rfl) (by decide) (by decide) (by decide) (Nat.le_of_ble_eq_true rfl) (Nat.le_of_ble_eq_true rfl) dX12_init_752 (fun q176 H_692 hP_692 hD_692 hS_692 => ?_)
  clear hP_690 hD_691 hS_687
  have hP_693 : va_P (dC, dI) vwCl [(h0, .inr (12, fs_175)), (q1, .inl (cI, 4000, (.inl (fun _ => 0)))), (q3, .inl (cI, 6, (.inl (fun _ => 0)))), (q5, .inl (cI, 49152, (.inl (fun _ => 0)))), (q7, .inl (cZ, 768, (.inl (fun _ => 0)))), (q176, .inl (cC, 66, (.inl (fun _ => 0))))] H_692 := hP_692
  clear hP_692
  have hD_694 : va_D A [(h0, .inr (12, fs_175)), (q1, .inl (cI, 4000, (.inl (fun _ => 0)))), (q3, .inl (cI, 6, (.inl (fun _ => 0)))), (q5, .inl (cI, 49152, (.inl (fun _ => 0)))), (q7, .inl (cZ, 768, (.inl (fun _ => 0)))), (q176, .inl (cC, 66, (.inl (fun _ => 0))))] := hD_692
  clear hD_692
  refine W.widen (k := 88) (n := 698344) (by decide) (by decide) ?_
  refine lv_dup hx hb dX12_init_754 rfl ?_
  refine lv_iconst (v := 0) hx hb dX12_init_755 (by decide) ?_
  refine lv_bipush (v := 107) hx hb dX12_init_756 (by decide) ?_
  refine va_cast hx hb hK hP_693 hD_694 hS_692 5 4 rfl rfl (vp_in_nI (n := 0) (N := 66) (by decide) (by decide)) dX12_init_758 (fun H_695 locs_695 hP_695 hD_695 hS_695 => ?_)
  clear hP_693 hD_694 hS_692
  obtain ⟨g_177, eg_177⟩ : ∃ y, y = upd (fun _ => 0) (0 : Int32).toNatClampNeg (vp_nar .char 107) := ⟨_, rfl⟩
  rw [← eg_177] at hP_695 hD_695
  clear eg_177
  have hP_696 : va_P (dC, dI) vwCl [(h0, .inr (12, fs_175)), (q1, .inl (cI, 4000, (.inl (fun _ => 0)))), (q3, .inl (cI, 6, (.inl (fun _ => 0)))), (q5, .inl (cI, 49152, (.inl (fun _ => 0)))), (q7, .inl (cZ, 768, (.inl (fun _ => 0)))), (q176, .inl (cC, 66, (.inl (g_177))))] H_695 := hP_695
  clear hP_695
  have hD_697 : va_D A [(h0, .inr (12, fs_175)), (q1, .inl (cI, 4000, (.inl (fun _ => 0)))), (q3, .inl (cI, 6, (.inl (fun _ => 0)))), (q5, .inl (cI, 49152, (.inl (fun _ => 0)))), (q7, .inl (cZ, 768, (.inl (fun _ => 0)))), (q176, .inl (cC, 66, (.inl (g_177))))] := hD_695
  clear hD_695
  refine lv_dup hx hb dX12_init_759 rfl ?_
  refine lv_iconst (v := 1) hx hb dX12_init_760 (by decide) ?_
  refine lv_bipush (v := 105) hx hb dX12_init_761 (by decide) ?_
  refine va_cast hx hb hK hP_696 hD_697 hS_695 5 4 rfl rfl (vp_in_nI (n := 1) (N := 66) (by decide) (by decide)) dX12_init_763 (fun H_698 locs_698 hP_698 hD_698 hS_698 => ?_)
  clear hP_696 hD_697 hS_695
  obtain ⟨g_178, eg_178⟩ : ∃ y, y = upd (g_177) (1 : Int32).toNatClampNeg (vp_nar .char 105) := ⟨_, rfl⟩
  rw [← eg_178] at hP_698 hD_698
  clear eg_178
  have hP_699 : va_P (dC, dI) vwCl [(h0, .inr (12, fs_175)), (q1, .inl (cI, 4000, (.inl (fun _ => 0)))), (q3, .inl (cI, 6, (.inl (fun _ => 0)))), (q5, .inl (cI, 49152, (.inl (fun _ => 0)))), (q7, .inl (cZ, 768, (.inl (fun _ => 0)))), (q176, .inl (cC, 66, (.inl (g_178))))] H_698 := hP_698
  clear hP_698
  have hD_700 : va_D A [(h0, .inr (12, fs_175)), (q1, .inl (cI, 4000, (.inl (fun _ => 0)))), (q3, .inl (cI, 6, (.inl (fun _ => 0)))), (q5, .inl (cI, 49152, (.inl (fun _ => 0)))), (q7, .inl (cZ, 768, (.inl (fun _ => 0)))), (q176, .inl (cC, 66, (.inl (g_178))))] := hD_698
  clear hD_698
  refine lv_dup hx hb dX12_init_764 rfl ?_
  refine lv_iconst (v := 2) hx hb dX12_init_765 (by decide) ?_
  refine lv_bipush (v := 110) hx hb dX12_init_766 (by decide) ?_
  refine va_cast hx hb hK hP_699 hD_700 hS_698 5 4 rfl rfl (vp_in_nI (n := 2) (N := 66) (by decide) (by decide)) dX12_init_768 (fun H_701 locs_701 hP_701 hD_701 hS_701 => ?_)
  clear hP_699 hD_700 hS_698
  obtain ⟨g_179, eg_179⟩ : ∃ y, y = upd (g_178) (2 : Int32).toNatClampNeg (vp_nar .char 110) := ⟨_, rfl⟩
  rw [← eg_179] at hP_701 hD_701
  clear eg_179
  have hP_702 : va_P (dC, dI) vwCl [(h0, .inr (12, fs_175)), (q1, .inl (cI, 4000, (.inl (fun _ => 0)))), (q3, .inl (cI, 6, (.inl (fun _ => 0)))), (q5, .inl (cI, 49152, (.inl (fun _ => 0)))), (q7, .inl (cZ, 768, (.inl (fun _ => 0)))), (q176, .inl (cC, 66, (.inl (g_179))))] H_701 := hP_701
  clear hP_701
  have hD_703 : va_D A [(h0, .inr (12, fs_175)), (q1, .inl (cI, 4000, (.inl (fun _ => 0)))), (q3, .inl (cI, 6, (.inl (fun _ => 0)))), (q5, .inl (cI, 49152, (.inl (fun _ => 0)))), (q7, .inl (cZ, 768, (.inl (fun _ => 0)))), (q176, .inl (cC, 66, (.inl (g_179))))] := hD_701
  clear hD_701
  refine lv_dup hx hb dX12_init_769 rfl ?_
  refine lv_iconst (v := 3) hx hb dX12_init_770 (by decide) ?_
  refine lv_bipush (v := 100) hx hb dX12_init_771 (by decide) ?_
  refine va_cast hx hb hK hP_702 hD_703 hS_701 5 4 rfl rfl (vp_in_nI (n := 3) (N := 66) (by decide) (by decide)) dX12_init_773 (fun H_704 locs_704 hP_704 hD_704 hS_704 => ?_)
  clear hP_702 hD_703 hS_701
  obtain ⟨g_180, eg_180⟩ : ∃ y, y = upd (g_179) (3 : Int32).toNatClampNeg (vp_nar .char 100) := ⟨_, rfl⟩
  rw [← eg_180] at hP_704 hD_704
  clear eg_180
  have hP_705 : va_P (dC, dI) vwCl [(h0, .inr (12, fs_175)), (q1, .inl (cI, 4000, (.inl (fun _ => 0)))), (q3, .inl (cI, 6, (.inl (fun _ => 0)))), (q5, .inl (cI, 49152, (.inl (fun _ => 0)))), (q7, .inl (cZ, 768, (.inl (fun _ => 0)))), (q176, .inl (cC, 66, (.inl (g_180))))] H_704 := hP_704
  clear hP_704
  have hD_706 : va_D A [(h0, .inr (12, fs_175)), (q1, .inl (cI, 4000, (.inl (fun _ => 0)))), (q3, .inl (cI, 6, (.inl (fun _ => 0)))), (q5, .inl (cI, 49152, (.inl (fun _ => 0)))), (q7, .inl (cZ, 768, (.inl (fun _ => 0)))), (q176, .inl (cC, 66, (.inl (g_180))))] := hD_704
  clear hD_704
  refine lv_dup hx hb dX12_init_774 rfl ?_
  refine lv_iconst (v := 4) hx hb dX12_init_775 (by decide) ?_
  refine lv_bipush (v := 32) hx hb dX12_init_776 (by decide) ?_
  refine va_cast hx hb hK hP_705 hD_706 hS_704 5 4 rfl rfl (vp_in_nI (n := 4) (N := 66) (by decide) (by decide)) dX12_init_778 (fun H_707 locs_707 hP_707 hD_707 hS_707 => ?_)
  clear hP_705 hD_706 hS_704
  obtain ⟨g_181, eg_181⟩ : ∃ y, y = upd (g_180) (4 : Int32).toNatClampNeg (vp_nar .char 32) := ⟨_, rfl⟩
  rw [← eg_181] at hP_707 hD_707
  clear eg_181
  have hP_708 : va_P (dC, dI) vwCl [(h0, .inr (12, fs_175)), (q1, .inl (cI, 4000, (.inl (fun _ => 0)))), (q3, .inl (cI, 6, (.inl (fun _ => 0)))), (q5, .inl (cI, 49152, (.inl (fun _ => 0)))), (q7, .inl (cZ, 768, (.inl (fun _ => 0)))), (q176, .inl (cC, 66, (.inl (g_181))))] H_707 := hP_707
  clear hP_707
  have hD_709 : va_D A [(h0, .inr (12, fs_175)), (q1, .inl (cI, 4000, (.inl (fun _ => 0)))), (q3, .inl (cI, 6, (.inl (fun _ => 0)))), (q5, .inl (cI, 49152, (.inl (fun _ => 0)))), (q7, .inl (cZ, 768, (.inl (fun _ => 0)))), (q176, .inl (cC, 66, (.inl (g_181))))] := hD_707
  clear hD_707
  refine lv_dup hx hb dX12_init_779 rfl ?_
  refine lv_iconst (v := 5) hx hb dX12_init_780 (by decide) ?_
  refine lv_bipush (v := 115) hx hb dX12_init_781 (by decide) ?_
  refine va_cast hx hb hK hP_708 hD_709 hS_707 5 4 rfl rfl (vp_in_nI (n := 5) (N := 66) (by decide) (by decide)) dX12_init_783 (fun H_710 locs_710 hP_710 hD_710 hS_710 => ?_)
  clear hP_708 hD_709 hS_707
  obtain ⟨g_182, eg_182⟩ : ∃ y, y = upd (g_181) (5 : Int32).toNatClampNeg (vp_nar .char 115) := ⟨_, rfl⟩
  rw [← eg_182] at hP_710 hD_710
  clear eg_182
  have hP_711 : va_P (dC, dI) vwCl [(h0, .inr (12, fs_175)), (q1, .inl (cI, 4000, (.inl (fun _ => 0)))), (q3, .inl (cI, 6, (.inl (fun _ => 0)))), (q5, .inl (cI, 49152, (.inl (fun _ => 0)))), (q7, .inl (cZ, 768, (.inl (fun _ => 0)))), (q176, .inl (cC, 66, (.inl (g_182))))] H_710 := hP_710
  clear hP_710
  have hD_712 : va_D A [(h0, .inr (12, fs_175)), (q1, .inl (cI, 4000, (.inl (fun _ => 0)))), (q3, .inl (cI, 6, (.inl (fun _ => 0)))), (q5, .inl (cI, 49152, (.inl (fun _ => 0)))), (q7, .inl (cZ, 768, (.inl (fun _ => 0)))), (q176, .inl (cC, 66, (.inl (g_182))))] := hD_710
  clear hD_710
  refine lv_dup hx hb dX12_init_784 rfl ?_
  refine lv_bipush (v := 6) hx hb dX12_init_785 (by decide) ?_
  refine lv_bipush (v := 105) hx hb dX12_init_787 (by decide) ?_
  refine va_cast hx hb hK hP_711 hD_712 hS_710 5 4 rfl rfl (vp_in_nI (n := 6) (N := 66) (by decide) (by decide)) dX12_init_789 (fun H_713 locs_713 hP_713 hD_713 hS_713 => ?_)
  clear hP_711 hD_712 hS_710
  obtain ⟨g_183, eg_183⟩ : ∃ y, y = upd (g_182) (6 : Int32).toNatClampNeg (vp_nar .char 105) := ⟨_, rfl⟩
  rw [← eg_183] at hP_713 hD_713
  clear eg_183
  have hP_714 : va_P (dC, dI) vwCl [(h0, .inr (12, fs_175)), (q1, .inl (cI, 4000, (.inl (fun _ => 0)))), (q3, .inl (cI, 6, (.inl (fun _ => 0)))), (q5, .inl (cI, 49152, (.inl (fun _ => 0)))), (q7, .inl (cZ, 768, (.inl (fun _ => 0)))), (q176, .inl (cC, 66, (.inl (g_183))))] H_713 := hP_713
  clear hP_713
  have hD_715 : va_D A [(h0, .inr (12, fs_175)), (q1, .inl (cI, 4000, (.inl (fun _ => 0)))), (q3, .inl (cI, 6, (.inl (fun _ => 0)))), (q5, .inl (cI, 49152, (.inl (fun _ => 0)))), (q7, .inl (cZ, 768, (.inl (fun _ => 0)))), (q176, .inl (cC, 66, (.inl (g_183))))] := hD_713
  clear hD_713
  refine lv_dup hx hb dX12_init_790 rfl ?_
  refine lv_bipush (v := 7) hx hb dX12_init_791 (by decide) ?_
  refine lv_bipush (v := 122) hx hb dX12_init_793 (by decide) ?_
  refine va_cast hx hb hK hP_714 hD_715 hS_713 5 4 rfl rfl (vp_in_nI (n := 7) (N := 66) (by decide) (by decide)) dX12_init_795 (fun H_716 locs_716 hP_716 hD_716 hS_716 => ?_)
  clear hP_714 hD_715 hS_713
  obtain ⟨g_184, eg_184⟩ : ∃ y, y = upd (g_183) (7 : Int32).toNatClampNeg (vp_nar .char 122) := ⟨_, rfl⟩
  rw [← eg_184] at hP_716 hD_716
  clear eg_184
  have hP_717 : va_P (dC, dI) vwCl [(h0, .inr (12, fs_175)), (q1, .inl (cI, 4000, (.inl (fun _ => 0)))), (q3, .inl (cI, 6, (.inl (fun _ => 0)))), (q5, .inl (cI, 49152, (.inl (fun _ => 0)))), (q7, .inl (cZ, 768, (.inl (fun _ => 0)))), (q176, .inl (cC, 66, (.inl (g_184))))] H_716 := hP_716
  clear hP_716
  have hD_718 : va_D A [(h0, .inr (12, fs_175)), (q1, .inl (cI, 4000, (.inl (fun _ => 0)))), (q3, .inl (cI, 6, (.inl (fun _ => 0)))), (q5, .inl (cI, 49152, (.inl (fun _ => 0)))), (q7, .inl (cZ, 768, (.inl (fun _ => 0)))), (q176, .inl (cC, 66, (.inl (g_184))))] := hD_716
  clear hD_716
  refine lv_dup hx hb dX12_init_796 rfl ?_
  refine lv_bipush (v := 8) hx hb dX12_init_797 (by decide) ?_
  refine lv_bipush (v := 101) hx hb dX12_init_799 (by decide) ?_
  refine va_cast hx hb hK hP_717 hD_718 hS_716 5 4 rfl rfl (vp_in_nI (n := 8) (N := 66) (by decide) (by decide)) dX12_init_801 (fun H_719 locs_719 hP_719 hD_719 hS_719 => ?_)
  clear hP_717 hD_718 hS_716
  obtain ⟨g_185, eg_185⟩ : ∃ y, y = upd (g_184) (8 : Int32).toNatClampNeg (vp_nar .char 101) := ⟨_, rfl⟩
  rw [← eg_185] at hP_719 hD_719
  clear eg_185
  have hP_720 : va_P (dC, dI) vwCl [(h0, .inr (12, fs_175)), (q1, .inl (cI, 4000, (.inl (fun _ => 0)))), (q3, .inl (cI, 6, (.inl (fun _ => 0)))), (q5, .inl (cI, 49152, (.inl (fun _ => 0)))), (q7, .inl (cZ, 768, (.inl (fun _ => 0)))), (q176, .inl (cC, 66, (.inl (g_185))))] H_719 := hP_719
  clear hP_719
  have hD_721 : va_D A [(h0, .inr (12, fs_175)), (q1, .inl (cI, 4000, (.inl (fun _ => 0)))), (q3, .inl (cI, 6, (.inl (fun _ => 0)))), (q5, .inl (cI, 49152, (.inl (fun _ => 0)))), (q7, .inl (cZ, 768, (.inl (fun _ => 0)))), (q176, .inl (cC, 66, (.inl (g_185))))] := hD_719
  clear hD_719
  refine lv_dup hx hb dX12_init_802 rfl ?_
  refine lv_bipush (v := 9) hx hb dX12_init_803 (by decide) ?_
  refine lv_bipush (v := 32) hx hb dX12_init_805 (by decide) ?_
  refine va_cast hx hb hK hP_720 hD_721 hS_719 5 4 rfl rfl (vp_in_nI (n := 9) (N := 66) (by decide) (by decide)) dX12_init_807 (fun H_722 locs_722 hP_722 hD_722 hS_722 => ?_)
  clear hP_720 hD_721 hS_719
  obtain ⟨g_186, eg_186⟩ : ∃ y, y = upd (g_185) (9 : Int32).toNatClampNeg (vp_nar .char 32) := ⟨_, rfl⟩
  rw [← eg_186] at hP_722 hD_722
  clear eg_186
  have hP_723 : va_P (dC, dI) vwCl [(h0, .inr (12, fs_175)), (q1, .inl (cI, 4000, (.inl (fun _ => 0)))), (q3, .inl (cI, 6, (.inl (fun _ => 0)))), (q5, .inl (cI, 49152, (.inl (fun _ => 0)))), (q7, .inl (cZ, 768, (.inl (fun _ => 0)))), (q176, .inl (cC, 66, (.inl (g_186))))] H_722 := hP_722
  clear hP_722
  have hD_724 : va_D A [(h0, .inr (12, fs_175)), (q1, .inl (cI, 4000, (.inl (fun _ => 0)))), (q3, .inl (cI, 6, (.inl (fun _ => 0)))), (q5, .inl (cI, 49152, (.inl (fun _ => 0)))), (q7, .inl (cZ, 768, (.inl (fun _ => 0)))), (q176, .inl (cC, 66, (.inl (g_186))))] := hD_722
  clear hD_722
  refine lv_dup hx hb dX12_init_808 rfl ?_
  refine lv_bipush (v := 10) hx hb dX12_init_809 (by decide) ?_
  refine lv_bipush (v := 109) hx hb dX12_init_811 (by decide) ?_
  refine va_cast hx hb hK hP_723 hD_724 hS_722 5 4 rfl rfl (vp_in_nI (n := 10) (N := 66) (by decide) (by decide)) dX12_init_813 (fun H_725 locs_725 hP_725 hD_725 hS_725 => ?_)
  clear hP_723 hD_724 hS_722
  obtain ⟨g_187, eg_187⟩ : ∃ y, y = upd (g_186) (10 : Int32).toNatClampNeg (vp_nar .char 109) := ⟨_, rfl⟩
  rw [← eg_187] at hP_725 hD_725
  clear eg_187
  have hP_726 : va_P (dC, dI) vwCl [(h0, .inr (12, fs_175)), (q1, .inl (cI, 4000, (.inl (fun _ => 0)))), (q3, .inl (cI, 6, (.inl (fun _ => 0)))), (q5, .inl (cI, 49152, (.inl (fun _ => 0)))), (q7, .inl (cZ, 768, (.inl (fun _ => 0)))), (q176, .inl (cC, 66, (.inl (g_187))))] H_725 := hP_725
  clear hP_725
  have hD_727 : va_D A [(h0, .inr (12, fs_175)), (q1, .inl (cI, 4000, (.inl (fun _ => 0)))), (q3, .inl (cI, 6, (.inl (fun _ => 0)))), (q5, .inl (cI, 49152, (.inl (fun _ => 0)))), (q7, .inl (cZ, 768, (.inl (fun _ => 0)))), (q176, .inl (cC, 66, (.inl (g_187))))] := hD_725
  clear hD_725
  refine lv_dup hx hb dX12_init_814 rfl ?_
  refine lv_bipush (v := 11) hx hb dX12_init_815 (by decide) ?_
  refine lv_bipush (v := 97) hx hb dX12_init_817 (by decide) ?_
  refine va_cast hx hb hK hP_726 hD_727 hS_725 5 4 rfl rfl (vp_in_nI (n := 11) (N := 66) (by decide) (by decide)) dX12_init_819 (fun H_728 locs_728 hP_728 hD_728 hS_728 => ?_)
  clear hP_726 hD_727 hS_725
  obtain ⟨g_188, eg_188⟩ : ∃ y, y = upd (g_187) (11 : Int32).toNatClampNeg (vp_nar .char 97) := ⟨_, rfl⟩
  rw [← eg_188] at hP_728 hD_728
  clear eg_188
  have hP_729 : va_P (dC, dI) vwCl [(h0, .inr (12, fs_175)), (q1, .inl (cI, 4000, (.inl (fun _ => 0)))), (q3, .inl (cI, 6, (.inl (fun _ => 0)))), (q5, .inl (cI, 49152, (.inl (fun _ => 0)))), (q7, .inl (cZ, 768, (.inl (fun _ => 0)))), (q176, .inl (cC, 66, (.inl (g_188))))] H_728 := hP_728
  clear hP_728
  have hD_730 : va_D A [(h0, .inr (12, fs_175)), (q1, .inl (cI, 4000, (.inl (fun _ => 0)))), (q3, .inl (cI, 6, (.inl (fun _ => 0)))), (q5, .inl (cI, 49152, (.inl (fun _ => 0)))), (q7, .inl (cZ, 768, (.inl (fun _ => 0)))), (q176, .inl (cC, 66, (.inl (g_188))))] := hD_728
  clear hD_728
  refine lv_dup hx hb dX12_init_820 rfl ?_
  refine lv_bipush (v := 12) hx hb dX12_init_821 (by decide) ?_
  refine lv_bipush (v := 100) hx hb dX12_init_823 (by decide) ?_
  refine va_cast hx hb hK hP_729 hD_730 hS_728 5 4 rfl rfl (vp_in_nI (n := 12) (N := 66) (by decide) (by decide)) dX12_init_825 (fun H_731 locs_731 hP_731 hD_731 hS_731 => ?_)
  clear hP_729 hD_730 hS_728
  obtain ⟨g_189, eg_189⟩ : ∃ y, y = upd (g_188) (12 : Int32).toNatClampNeg (vp_nar .char 100) := ⟨_, rfl⟩
  rw [← eg_189] at hP_731 hD_731
  clear eg_189
  have hP_732 : va_P (dC, dI) vwCl [(h0, .inr (12, fs_175)), (q1, .inl (cI, 4000, (.inl (fun _ => 0)))), (q3, .inl (cI, 6, (.inl (fun _ => 0)))), (q5, .inl (cI, 49152, (.inl (fun _ => 0)))), (q7, .inl (cZ, 768, (.inl (fun _ => 0)))), (q176, .inl (cC, 66, (.inl (g_189))))] H_731 := hP_731
  clear hP_731
  have hD_733 : va_D A [(h0, .inr (12, fs_175)), (q1, .inl (cI, 4000, (.inl (fun _ => 0)))), (q3, .inl (cI, 6, (.inl (fun _ => 0)))), (q5, .inl (cI, 49152, (.inl (fun _ => 0)))), (q7, .inl (cZ, 768, (.inl (fun _ => 0)))), (q176, .inl (cC, 66, (.inl (g_189))))] := hD_731
  clear hD_731
  refine lv_dup hx hb dX12_init_826 rfl ?_
  refine lv_bipush (v := 13) hx hb dX12_init_827 (by decide) ?_
  refine lv_bipush (v := 101) hx hb dX12_init_829 (by decide) ?_
  refine va_cast hx hb hK hP_732 hD_733 hS_731 5 4 rfl rfl (vp_in_nI (n := 13) (N := 66) (by decide) (by decide)) dX12_init_831 (fun H_734 locs_734 hP_734 hD_734 hS_734 => ?_)
  clear hP_732 hD_733 hS_731
  obtain ⟨g_190, eg_190⟩ : ∃ y, y = upd (g_189) (13 : Int32).toNatClampNeg (vp_nar .char 101) := ⟨_, rfl⟩
  rw [← eg_190] at hP_734 hD_734
  clear eg_190
  have hP_735 : va_P (dC, dI) vwCl [(h0, .inr (12, fs_175)), (q1, .inl (cI, 4000, (.inl (fun _ => 0)))), (q3, .inl (cI, 6, (.inl (fun _ => 0)))), (q5, .inl (cI, 49152, (.inl (fun _ => 0)))), (q7, .inl (cZ, 768, (.inl (fun _ => 0)))), (q176, .inl (cC, 66, (.inl (g_190))))] H_734 := hP_734
  clear hP_734
  have hD_736 : va_D A [(h0, .inr (12, fs_175)), (q1, .inl (cI, 4000, (.inl (fun _ => 0)))), (q3, .inl (cI, 6, (.inl (fun _ => 0)))), (q5, .inl (cI, 49152, (.inl (fun _ => 0)))), (q7, .inl (cZ, 768, (.inl (fun _ => 0)))), (q176, .inl (cC, 66, (.inl (g_190))))] := hD_734
  clear hD_734
  refine lv_dup hx hb dX12_init_832 rfl ?_
  refine lv_bipush (v := 14) hx hb dX12_init_833 (by decide) ?_
  refine lv_bipush (v := 32) hx hb dX12_init_835 (by decide) ?_
  refine va_cast hx hb hK hP_735 hD_736 hS_734 5 4 rfl rfl (vp_in_nI (n := 14) (N := 66) (by decide) (by decide)) dX12_init_837 (fun H_737 locs_737 hP_737 hD_737 hS_737 => ?_)
  clear hP_735 hD_736 hS_734
  obtain ⟨g_191, eg_191⟩ : ∃ y, y = upd (g_190) (14 : Int32).toNatClampNeg (vp_nar .char 32) := ⟨_, rfl⟩
  rw [← eg_191] at hP_737 hD_737
  clear eg_191
  have hP_738 : va_P (dC, dI) vwCl [(h0, .inr (12, fs_175)), (q1, .inl (cI, 4000, (.inl (fun _ => 0)))), (q3, .inl (cI, 6, (.inl (fun _ => 0)))), (q5, .inl (cI, 49152, (.inl (fun _ => 0)))), (q7, .inl (cZ, 768, (.inl (fun _ => 0)))), (q176, .inl (cC, 66, (.inl (g_191))))] H_737 := hP_737
  clear hP_737
  have hD_739 : va_D A [(h0, .inr (12, fs_175)), (q1, .inl (cI, 4000, (.inl (fun _ => 0)))), (q3, .inl (cI, 6, (.inl (fun _ => 0)))), (q5, .inl (cI, 49152, (.inl (fun _ => 0)))), (q7, .inl (cZ, 768, (.inl (fun _ => 0)))), (q176, .inl (cC, 66, (.inl (g_191))))] := hD_737
  clear hD_737
  refine lv_dup hx hb dX12_init_838 rfl ?_
  refine lv_bipush (v := 15) hx hb dX12_init_839 (by decide) ?_
  refine lv_bipush (v := 97) hx hb dX12_init_841 (by decide) ?_
  refine va_cast hx hb hK hP_738 hD_739 hS_737 5 4 rfl rfl (vp_in_nI (n := 15) (N := 66) (by decide) (by decide)) dX12_init_843 (fun H_740 locs_740 hP_740 hD_740 hS_740 => ?_)
  clear hP_738 hD_739 hS_737
  obtain ⟨g_192, eg_192⟩ : ∃ y, y = upd (g_191) (15 : Int32).toNatClampNeg (vp_nar .char 97) := ⟨_, rfl⟩
  rw [← eg_192] at hP_740 hD_740
  clear eg_192
  have hP_741 : va_P (dC, dI) vwCl [(h0, .inr (12, fs_175)), (q1, .inl (cI, 4000, (.inl (fun _ => 0)))), (q3, .inl (cI, 6, (.inl (fun _ => 0)))), (q5, .inl (cI, 49152, (.inl (fun _ => 0)))), (q7, .inl (cZ, 768, (.inl (fun _ => 0)))), (q176, .inl (cC, 66, (.inl (g_192))))] H_740 := hP_740
  clear hP_740
  have hD_742 : va_D A [(h0, .inr (12, fs_175)), (q1, .inl (cI, 4000, (.inl (fun _ => 0)))), (q3, .inl (cI, 6, (.inl (fun _ => 0)))), (q5, .inl (cI, 49152, (.inl (fun _ => 0)))), (q7, .inl (cZ, 768, (.inl (fun _ => 0)))), (q176, .inl (cC, 66, (.inl (g_192))))] := hD_740
  clear hD_740
  refine lv_dup hx hb dX12_init_844 rfl ?_
  refine lv_bipush (v := 16) hx hb dX12_init_845 (by decide) ?_
  refine lv_bipush (v := 108) hx hb dX12_init_847 (by decide) ?_
  refine va_cast hx hb hK hP_741 hD_742 hS_740 5 4 rfl rfl (vp_in_nI (n := 16) (N := 66) (by decide) (by decide)) dX12_init_849 (fun H_743 locs_743 hP_743 hD_743 hS_743 => ?_)
  clear hP_741 hD_742 hS_740
  obtain ⟨g_193, eg_193⟩ : ∃ y, y = upd (g_192) (16 : Int32).toNatClampNeg (vp_nar .char 108) := ⟨_, rfl⟩
  rw [← eg_193] at hP_743 hD_743
  clear eg_193
  have hP_744 : va_P (dC, dI) vwCl [(h0, .inr (12, fs_175)), (q1, .inl (cI, 4000, (.inl (fun _ => 0)))), (q3, .inl (cI, 6, (.inl (fun _ => 0)))), (q5, .inl (cI, 49152, (.inl (fun _ => 0)))), (q7, .inl (cZ, 768, (.inl (fun _ => 0)))), (q176, .inl (cC, 66, (.inl (g_193))))] H_743 := hP_743
  clear hP_743
  have hD_745 : va_D A [(h0, .inr (12, fs_175)), (q1, .inl (cI, 4000, (.inl (fun _ => 0)))), (q3, .inl (cI, 6, (.inl (fun _ => 0)))), (q5, .inl (cI, 49152, (.inl (fun _ => 0)))), (q7, .inl (cZ, 768, (.inl (fun _ => 0)))), (q176, .inl (cC, 66, (.inl (g_193))))] := hD_743
  clear hD_743
  refine lv_dup hx hb dX12_init_850 rfl ?_
  refine lv_bipush (v := 17) hx hb dX12_init_851 (by decide) ?_
  refine lv_bipush (v := 116) hx hb dX12_init_853 (by decide) ?_
  refine va_cast hx hb hK hP_744 hD_745 hS_743 5 4 rfl rfl (vp_in_nI (n := 17) (N := 66) (by decide) (by decide)) dX12_init_855 (fun H_746 locs_746 hP_746 hD_746 hS_746 => ?_)
  clear hP_744 hD_745 hS_743
  obtain ⟨g_194, eg_194⟩ : ∃ y, y = upd (g_193) (17 : Int32).toNatClampNeg (vp_nar .char 116) := ⟨_, rfl⟩
  rw [← eg_194] at hP_746 hD_746
  clear eg_194
  have hP_747 : va_P (dC, dI) vwCl [(h0, .inr (12, fs_175)), (q1, .inl (cI, 4000, (.inl (fun _ => 0)))), (q3, .inl (cI, 6, (.inl (fun _ => 0)))), (q5, .inl (cI, 49152, (.inl (fun _ => 0)))), (q7, .inl (cZ, 768, (.inl (fun _ => 0)))), (q176, .inl (cC, 66, (.inl (g_194))))] H_746 := hP_746
  clear hP_746
  have hD_748 : va_D A [(h0, .inr (12, fs_175)), (q1, .inl (cI, 4000, (.inl (fun _ => 0)))), (q3, .inl (cI, 6, (.inl (fun _ => 0)))), (q5, .inl (cI, 49152, (.inl (fun _ => 0)))), (q7, .inl (cZ, 768, (.inl (fun _ => 0)))), (q176, .inl (cC, 66, (.inl (g_194))))] := hD_746
  clear hD_746
  refine lv_dup hx hb dX12_init_856 rfl ?_
  refine lv_bipush (v := 18) hx hb dX12_init_857 (by decide) ?_
  refine lv_bipush (v := 101) hx hb dX12_init_859 (by decide) ?_
  refine va_cast hx hb hK hP_747 hD_748 hS_746 5 4 rfl rfl (vp_in_nI (n := 18) (N := 66) (by decide) (by decide)) dX12_init_861 (fun H_749 locs_749 hP_749 hD_749 hS_749 => ?_)
  clear hP_747 hD_748 hS_746
  obtain ⟨g_195, eg_195⟩ : ∃ y, y = upd (g_194) (18 : Int32).toNatClampNeg (vp_nar .char 101) := ⟨_, rfl⟩
  rw [← eg_195] at hP_749 hD_749
  clear eg_195
  have hP_750 : va_P (dC, dI) vwCl [(h0, .inr (12, fs_175)), (q1, .inl (cI, 4000, (.inl (fun _ => 0)))), (q3, .inl (cI, 6, (.inl (fun _ => 0)))), (q5, .inl (cI, 49152, (.inl (fun _ => 0)))), (q7, .inl (cZ, 768, (.inl (fun _ => 0)))), (q176, .inl (cC, 66, (.inl (g_195))))] H_749 := hP_749
  clear hP_749
  have hD_751 : va_D A [(h0, .inr (12, fs_175)), (q1, .inl (cI, 4000, (.inl (fun _ => 0)))), (q3, .inl (cI, 6, (.inl (fun _ => 0)))), (q5, .inl (cI, 49152, (.inl (fun _ => 0)))), (q7, .inl (cZ, 768, (.inl (fun _ => 0)))), (q176, .inl (cC, 66, (.inl (g_195))))] := hD_749
  clear hD_749
  refine lv_dup hx hb dX12_init_862 rfl ?_
  refine lv_bipush (v := 19) hx hb dX12_init_863 (by decide) ?_
  refine lv_bipush (v := 114) hx hb dX12_init_865 (by decide) ?_
  refine va_cast hx hb hK hP_750 hD_751 hS_749 5 4 rfl rfl (vp_in_nI (n := 19) (N := 66) (by decide) (by decide)) dX12_init_867 (fun H_752 locs_752 hP_752 hD_752 hS_752 => ?_)
  clear hP_750 hD_751 hS_749
  obtain ⟨g_196, eg_196⟩ : ∃ y, y = upd (g_195) (19 : Int32).toNatClampNeg (vp_nar .char 114) := ⟨_, rfl⟩
  rw [← eg_196] at hP_752 hD_752
  clear eg_196
  have hP_753 : va_P (dC, dI) vwCl [(h0, .inr (12, fs_175)), (q1, .inl (cI, 4000, (.inl (fun _ => 0)))), (q3, .inl (cI, 6, (.inl (fun _ => 0)))), (q5, .inl (cI, 49152, (.inl (fun _ => 0)))), (q7, .inl (cZ, 768, (.inl (fun _ => 0)))), (q176, .inl (cC, 66, (.inl (g_196))))] H_752 := hP_752
  clear hP_752
  have hD_754 : va_D A [(h0, .inr (12, fs_175)), (q1, .inl (cI, 4000, (.inl (fun _ => 0)))), (q3, .inl (cI, 6, (.inl (fun _ => 0)))), (q5, .inl (cI, 49152, (.inl (fun _ => 0)))), (q7, .inl (cZ, 768, (.inl (fun _ => 0)))), (q176, .inl (cC, 66, (.inl (g_196))))] := hD_752
  clear hD_752
  refine lv_dup hx hb dX12_init_868 rfl ?_
  refine lv_bipush (v := 20) hx hb dX12_init_869 (by decide) ?_
  refine lv_bipush (v := 101) hx hb dX12_init_871 (by decide) ?_
  refine va_cast hx hb hK hP_753 hD_754 hS_752 5 4 rfl rfl (vp_in_nI (n := 20) (N := 66) (by decide) (by decide)) dX12_init_873 (fun H_755 locs_755 hP_755 hD_755 hS_755 => ?_)
  clear hP_753 hD_754 hS_752
  obtain ⟨g_197, eg_197⟩ : ∃ y, y = upd (g_196) (20 : Int32).toNatClampNeg (vp_nar .char 101) := ⟨_, rfl⟩
  rw [← eg_197] at hP_755 hD_755
  clear eg_197
  have hP_756 : va_P (dC, dI) vwCl [(h0, .inr (12, fs_175)), (q1, .inl (cI, 4000, (.inl (fun _ => 0)))), (q3, .inl (cI, 6, (.inl (fun _ => 0)))), (q5, .inl (cI, 49152, (.inl (fun _ => 0)))), (q7, .inl (cZ, 768, (.inl (fun _ => 0)))), (q176, .inl (cC, 66, (.inl (g_197))))] H_755 := hP_755
  clear hP_755
  have hD_757 : va_D A [(h0, .inr (12, fs_175)), (q1, .inl (cI, 4000, (.inl (fun _ => 0)))), (q3, .inl (cI, 6, (.inl (fun _ => 0)))), (q5, .inl (cI, 49152, (.inl (fun _ => 0)))), (q7, .inl (cZ, 768, (.inl (fun _ => 0)))), (q176, .inl (cC, 66, (.inl (g_197))))] := hD_755
  clear hD_755
  refine lv_dup hx hb dX12_init_874 rfl ?_
  refine lv_bipush (v := 21) hx hb dX12_init_875 (by decide) ?_
  refine lv_bipush (v := 100) hx hb dX12_init_877 (by decide) ?_
  refine va_cast hx hb hK hP_756 hD_757 hS_755 5 4 rfl rfl (vp_in_nI (n := 21) (N := 66) (by decide) (by decide)) dX12_init_879 (fun H_758 locs_758 hP_758 hD_758 hS_758 => ?_)
  clear hP_756 hD_757 hS_755
  obtain ⟨g_198, eg_198⟩ : ∃ y, y = upd (g_197) (21 : Int32).toNatClampNeg (vp_nar .char 100) := ⟨_, rfl⟩
  rw [← eg_198] at hP_758 hD_758
  clear eg_198
  have hP_759 : va_P (dC, dI) vwCl [(h0, .inr (12, fs_175)), (q1, .inl (cI, 4000, (.inl (fun _ => 0)))), (q3, .inl (cI, 6, (.inl (fun _ => 0)))), (q5, .inl (cI, 49152, (.inl (fun _ => 0)))), (q7, .inl (cZ, 768, (.inl (fun _ => 0)))), (q176, .inl (cC, 66, (.inl (g_198))))] H_758 := hP_758
  clear hP_758
  have hD_760 : va_D A [(h0, .inr (12, fs_175)), (q1, .inl (cI, 4000, (.inl (fun _ => 0)))), (q3, .inl (cI, 6, (.inl (fun _ => 0)))), (q5, .inl (cI, 49152, (.inl (fun _ => 0)))), (q7, .inl (cZ, 768, (.inl (fun _ => 0)))), (q176, .inl (cC, 66, (.inl (g_198))))] := hD_758
  clear hD_758
  refine lv_dup hx hb dX12_init_880 rfl ?_
  refine lv_bipush (v := 22) hx hb dX12_init_881 (by decide) ?_
  refine lv_bipush (v := 32) hx hb dX12_init_883 (by decide) ?_
  refine va_cast hx hb hK hP_759 hD_760 hS_758 5 4 rfl rfl (vp_in_nI (n := 22) (N := 66) (by decide) (by decide)) dX12_init_885 (fun H_761 locs_761 hP_761 hD_761 hS_761 => ?_)
  clear hP_759 hD_760 hS_758
  obtain ⟨g_199, eg_199⟩ : ∃ y, y = upd (g_198) (22 : Int32).toNatClampNeg (vp_nar .char 32) := ⟨_, rfl⟩
  rw [← eg_199] at hP_761 hD_761
  clear eg_199
  have hP_762 : va_P (dC, dI) vwCl [(h0, .inr (12, fs_175)), (q1, .inl (cI, 4000, (.inl (fun _ => 0)))), (q3, .inl (cI, 6, (.inl (fun _ => 0)))), (q5, .inl (cI, 49152, (.inl (fun _ => 0)))), (q7, .inl (cZ, 768, (.inl (fun _ => 0)))), (q176, .inl (cC, 66, (.inl (g_199))))] H_761 := hP_761
  clear hP_761
  have hD_763 : va_D A [(h0, .inr (12, fs_175)), (q1, .inl (cI, 4000, (.inl (fun _ => 0)))), (q3, .inl (cI, 6, (.inl (fun _ => 0)))), (q5, .inl (cI, 49152, (.inl (fun _ => 0)))), (q7, .inl (cZ, 768, (.inl (fun _ => 0)))), (q176, .inl (cC, 66, (.inl (g_199))))] := hD_761
  clear hD_761
  refine lv_dup hx hb dX12_init_886 rfl ?_
  refine lv_bipush (v := 23) hx hb dX12_init_887 (by decide) ?_
  refine lv_bipush (v := 101) hx hb dX12_init_889 (by decide) ?_
  refine va_cast hx hb hK hP_762 hD_763 hS_761 5 4 rfl rfl (vp_in_nI (n := 23) (N := 66) (by decide) (by decide)) dX12_init_891 (fun H_764 locs_764 hP_764 hD_764 hS_764 => ?_)
  clear hP_762 hD_763 hS_761
  obtain ⟨g_200, eg_200⟩ : ∃ y, y = upd (g_199) (23 : Int32).toNatClampNeg (vp_nar .char 101) := ⟨_, rfl⟩
  rw [← eg_200] at hP_764 hD_764
  clear eg_200
  have hP_765 : va_P (dC, dI) vwCl [(h0, .inr (12, fs_175)), (q1, .inl (cI, 4000, (.inl (fun _ => 0)))), (q3, .inl (cI, 6, (.inl (fun _ => 0)))), (q5, .inl (cI, 49152, (.inl (fun _ => 0)))), (q7, .inl (cZ, 768, (.inl (fun _ => 0)))), (q176, .inl (cC, 66, (.inl (g_200))))] H_764 := hP_764
  clear hP_764
  have hD_766 : va_D A [(h0, .inr (12, fs_175)), (q1, .inl (cI, 4000, (.inl (fun _ => 0)))), (q3, .inl (cI, 6, (.inl (fun _ => 0)))), (q5, .inl (cI, 49152, (.inl (fun _ => 0)))), (q7, .inl (cZ, 768, (.inl (fun _ => 0)))), (q176, .inl (cC, 66, (.inl (g_200))))] := hD_764
  clear hD_764
  refine lv_dup hx hb dX12_init_892 rfl ?_
  refine lv_bipush (v := 24) hx hb dX12_init_893 (by decide) ?_
  refine lv_bipush (v := 114) hx hb dX12_init_895 (by decide) ?_
  refine va_cast hx hb hK hP_765 hD_766 hS_764 5 4 rfl rfl (vp_in_nI (n := 24) (N := 66) (by decide) (by decide)) dX12_init_897 (fun H_767 locs_767 hP_767 hD_767 hS_767 => ?_)
  clear hP_765 hD_766 hS_764
  obtain ⟨g_201, eg_201⟩ : ∃ y, y = upd (g_200) (24 : Int32).toNatClampNeg (vp_nar .char 114) := ⟨_, rfl⟩
  rw [← eg_201] at hP_767 hD_767
  clear eg_201
  have hP_768 : va_P (dC, dI) vwCl [(h0, .inr (12, fs_175)), (q1, .inl (cI, 4000, (.inl (fun _ => 0)))), (q3, .inl (cI, 6, (.inl (fun _ => 0)))), (q5, .inl (cI, 49152, (.inl (fun _ => 0)))), (q7, .inl (cZ, 768, (.inl (fun _ => 0)))), (q176, .inl (cC, 66, (.inl (g_201))))] H_767 := hP_767
  clear hP_767
  have hD_769 : va_D A [(h0, .inr (12, fs_175)), (q1, .inl (cI, 4000, (.inl (fun _ => 0)))), (q3, .inl (cI, 6, (.inl (fun _ => 0)))), (q5, .inl (cI, 49152, (.inl (fun _ => 0)))), (q7, .inl (cZ, 768, (.inl (fun _ => 0)))), (q176, .inl (cC, 66, (.inl (g_201))))] := hD_767
  clear hD_767
  refine lv_dup hx hb dX12_init_898 rfl ?_
  refine lv_bipush (v := 25) hx hb dX12_init_899 (by decide) ?_
  refine lv_bipush (v := 97) hx hb dX12_init_901 (by decide) ?_
  refine va_cast hx hb hK hP_768 hD_769 hS_767 5 4 rfl rfl (vp_in_nI (n := 25) (N := 66) (by decide) (by decide)) dX12_init_903 (fun H_770 locs_770 hP_770 hD_770 hS_770 => ?_)
  clear hP_768 hD_769 hS_767
  obtain ⟨g_202, eg_202⟩ : ∃ y, y = upd (g_201) (25 : Int32).toNatClampNeg (vp_nar .char 97) := ⟨_, rfl⟩
  rw [← eg_202] at hP_770 hD_770
  clear eg_202
  have hP_771 : va_P (dC, dI) vwCl [(h0, .inr (12, fs_175)), (q1, .inl (cI, 4000, (.inl (fun _ => 0)))), (q3, .inl (cI, 6, (.inl (fun _ => 0)))), (q5, .inl (cI, 49152, (.inl (fun _ => 0)))), (q7, .inl (cZ, 768, (.inl (fun _ => 0)))), (q176, .inl (cC, 66, (.inl (g_202))))] H_770 := hP_770
  clear hP_770
  have hD_772 : va_D A [(h0, .inr (12, fs_175)), (q1, .inl (cI, 4000, (.inl (fun _ => 0)))), (q3, .inl (cI, 6, (.inl (fun _ => 0)))), (q5, .inl (cI, 49152, (.inl (fun _ => 0)))), (q7, .inl (cZ, 768, (.inl (fun _ => 0)))), (q176, .inl (cC, 66, (.inl (g_202))))] := hD_770
  clear hD_770
  refine lv_dup hx hb dX12_init_904 rfl ?_
  refine lv_bipush (v := 26) hx hb dX12_init_905 (by decide) ?_
  refine lv_bipush (v := 115) hx hb dX12_init_907 (by decide) ?_
  refine va_cast hx hb hK hP_771 hD_772 hS_770 5 4 rfl rfl (vp_in_nI (n := 26) (N := 66) (by decide) (by decide)) dX12_init_909 (fun H_773 locs_773 hP_773 hD_773 hS_773 => ?_)
  clear hP_771 hD_772 hS_770
  obtain ⟨g_203, eg_203⟩ : ∃ y, y = upd (g_202) (26 : Int32).toNatClampNeg (vp_nar .char 115) := ⟨_, rfl⟩
  rw [← eg_203] at hP_773 hD_773
  clear eg_203
  have hP_774 : va_P (dC, dI) vwCl [(h0, .inr (12, fs_175)), (q1, .inl (cI, 4000, (.inl (fun _ => 0)))), (q3, .inl (cI, 6, (.inl (fun _ => 0)))), (q5, .inl (cI, 49152, (.inl (fun _ => 0)))), (q7, .inl (cZ, 768, (.inl (fun _ => 0)))), (q176, .inl (cC, 66, (.inl (g_203))))] H_773 := hP_773
  clear hP_773
  have hD_775 : va_D A [(h0, .inr (12, fs_175)), (q1, .inl (cI, 4000, (.inl (fun _ => 0)))), (q3, .inl (cI, 6, (.inl (fun _ => 0)))), (q5, .inl (cI, 49152, (.inl (fun _ => 0)))), (q7, .inl (cZ, 768, (.inl (fun _ => 0)))), (q176, .inl (cC, 66, (.inl (g_203))))] := hD_773
  clear hD_773
  refine lv_dup hx hb dX12_init_910 rfl ?_
  refine lv_bipush (v := 27) hx hb dX12_init_911 (by decide) ?_
  refine lv_bipush (v := 101) hx hb dX12_init_913 (by decide) ?_
  refine va_cast hx hb hK hP_774 hD_775 hS_773 5 4 rfl rfl (vp_in_nI (n := 27) (N := 66) (by decide) (by decide)) dX12_init_915 (fun H_776 locs_776 hP_776 hD_776 hS_776 => ?_)
  clear hP_774 hD_775 hS_773
  obtain ⟨g_204, eg_204⟩ : ∃ y, y = upd (g_203) (27 : Int32).toNatClampNeg (vp_nar .char 101) := ⟨_, rfl⟩
  rw [← eg_204] at hP_776 hD_776
  clear eg_204
  have hP_777 : va_P (dC, dI) vwCl [(h0, .inr (12, fs_175)), (q1, .inl (cI, 4000, (.inl (fun _ => 0)))), (q3, .inl (cI, 6, (.inl (fun _ => 0)))), (q5, .inl (cI, 49152, (.inl (fun _ => 0)))), (q7, .inl (cZ, 768, (.inl (fun _ => 0)))), (q176, .inl (cC, 66, (.inl (g_204))))] H_776 := hP_776
  clear hP_776
  have hD_778 : va_D A [(h0, .inr (12, fs_175)), (q1, .inl (cI, 4000, (.inl (fun _ => 0)))), (q3, .inl (cI, 6, (.inl (fun _ => 0)))), (q5, .inl (cI, 49152, (.inl (fun _ => 0)))), (q7, .inl (cZ, 768, (.inl (fun _ => 0)))), (q176, .inl (cC, 66, (.inl (g_204))))] := hD_776
  clear hD_776
  refine lv_dup hx hb dX12_init_916 rfl ?_
  refine lv_bipush (v := 28) hx hb dX12_init_917 (by decide) ?_
  refine lv_bipush (v := 100) hx hb dX12_init_919 (by decide) ?_
  refine va_cast hx hb hK hP_777 hD_778 hS_776 5 4 rfl rfl (vp_in_nI (n := 28) (N := 66) (by decide) (by decide)) dX12_init_921 (fun H_779 locs_779 hP_779 hD_779 hS_779 => ?_)
  clear hP_777 hD_778 hS_776
  obtain ⟨g_205, eg_205⟩ : ∃ y, y = upd (g_204) (28 : Int32).toNatClampNeg (vp_nar .char 100) := ⟨_, rfl⟩
  rw [← eg_205] at hP_779 hD_779
  clear eg_205
  have hP_780 : va_P (dC, dI) vwCl [(h0, .inr (12, fs_175)), (q1, .inl (cI, 4000, (.inl (fun _ => 0)))), (q3, .inl (cI, 6, (.inl (fun _ => 0)))), (q5, .inl (cI, 49152, (.inl (fun _ => 0)))), (q7, .inl (cZ, 768, (.inl (fun _ => 0)))), (q176, .inl (cC, 66, (.inl (g_205))))] H_779 := hP_779
  clear hP_779
  have hD_781 : va_D A [(h0, .inr (12, fs_175)), (q1, .inl (cI, 4000, (.inl (fun _ => 0)))), (q3, .inl (cI, 6, (.inl (fun _ => 0)))), (q5, .inl (cI, 49152, (.inl (fun _ => 0)))), (q7, .inl (cZ, 768, (.inl (fun _ => 0)))), (q176, .inl (cC, 66, (.inl (g_205))))] := hD_779
  clear hD_779
  refine lv_dup hx hb dX12_init_922 rfl ?_
  refine lv_bipush (v := 29) hx hb dX12_init_923 (by decide) ?_
  refine lv_bipush (v := 32) hx hb dX12_init_925 (by decide) ?_
  refine va_cast hx hb hK hP_780 hD_781 hS_779 5 4 rfl rfl (vp_in_nI (n := 29) (N := 66) (by decide) (by decide)) dX12_init_927 (fun H_782 locs_782 hP_782 hD_782 hS_782 => ?_)
  clear hP_780 hD_781 hS_779
  obtain ⟨g_206, eg_206⟩ : ∃ y, y = upd (g_205) (29 : Int32).toNatClampNeg (vp_nar .char 32) := ⟨_, rfl⟩
  rw [← eg_206] at hP_782 hD_782
  clear eg_206
  have hP_783 : va_P (dC, dI) vwCl [(h0, .inr (12, fs_175)), (q1, .inl (cI, 4000, (.inl (fun _ => 0)))), (q3, .inl (cI, 6, (.inl (fun _ => 0)))), (q5, .inl (cI, 49152, (.inl (fun _ => 0)))), (q7, .inl (cZ, 768, (.inl (fun _ => 0)))), (q176, .inl (cC, 66, (.inl (g_206))))] H_782 := hP_782
  clear hP_782
  have hD_784 : va_D A [(h0, .inr (12, fs_175)), (q1, .inl (cI, 4000, (.inl (fun _ => 0)))), (q3, .inl (cI, 6, (.inl (fun _ => 0)))), (q5, .inl (cI, 49152, (.inl (fun _ => 0)))), (q7, .inl (cZ, 768, (.inl (fun _ => 0)))), (q176, .inl (cC, 66, (.inl (g_206))))] := hD_782
  clear hD_782
  refine lv_dup hx hb dX12_init_928 rfl ?_
  refine lv_bipush (v := 30) hx hb dX12_init_929 (by decide) ?_
  refine lv_bipush (v := 103) hx hb dX12_init_931 (by decide) ?_
  refine va_cast hx hb hK hP_783 hD_784 hS_782 5 4 rfl rfl (vp_in_nI (n := 30) (N := 66) (by decide) (by decide)) dX12_init_933 (fun H_785 locs_785 hP_785 hD_785 hS_785 => ?_)
  clear hP_783 hD_784 hS_782
  obtain ⟨g_207, eg_207⟩ : ∃ y, y = upd (g_206) (30 : Int32).toNatClampNeg (vp_nar .char 103) := ⟨_, rfl⟩
  rw [← eg_207] at hP_785 hD_785
  clear eg_207
  have hP_786 : va_P (dC, dI) vwCl [(h0, .inr (12, fs_175)), (q1, .inl (cI, 4000, (.inl (fun _ => 0)))), (q3, .inl (cI, 6, (.inl (fun _ => 0)))), (q5, .inl (cI, 49152, (.inl (fun _ => 0)))), (q7, .inl (cZ, 768, (.inl (fun _ => 0)))), (q176, .inl (cC, 66, (.inl (g_207))))] H_785 := hP_785
  clear hP_785
  have hD_787 : va_D A [(h0, .inr (12, fs_175)), (q1, .inl (cI, 4000, (.inl (fun _ => 0)))), (q3, .inl (cI, 6, (.inl (fun _ => 0)))), (q5, .inl (cI, 49152, (.inl (fun _ => 0)))), (q7, .inl (cZ, 768, (.inl (fun _ => 0)))), (q176, .inl (cC, 66, (.inl (g_207))))] := hD_785
  clear hD_785
  refine lv_dup hx hb dX12_init_934 rfl ?_
  refine lv_bipush (v := 31) hx hb dX12_init_935 (by decide) ?_
  refine lv_bipush (v := 114) hx hb dX12_init_937 (by decide) ?_
  refine va_cast hx hb hK hP_786 hD_787 hS_785 5 4 rfl rfl (vp_in_nI (n := 31) (N := 66) (by decide) (by decide)) dX12_init_939 (fun H_788 locs_788 hP_788 hD_788 hS_788 => ?_)
  clear hP_786 hD_787 hS_785
  obtain ⟨g_208, eg_208⟩ : ∃ y, y = upd (g_207) (31 : Int32).toNatClampNeg (vp_nar .char 114) := ⟨_, rfl⟩
  rw [← eg_208] at hP_788 hD_788
  clear eg_208
  have hP_789 : va_P (dC, dI) vwCl [(h0, .inr (12, fs_175)), (q1, .inl (cI, 4000, (.inl (fun _ => 0)))), (q3, .inl (cI, 6, (.inl (fun _ => 0)))), (q5, .inl (cI, 49152, (.inl (fun _ => 0)))), (q7, .inl (cZ, 768, (.inl (fun _ => 0)))), (q176, .inl (cC, 66, (.inl (g_208))))] H_788 := hP_788
  clear hP_788
  have hD_790 : va_D A [(h0, .inr (12, fs_175)), (q1, .inl (cI, 4000, (.inl (fun _ => 0)))), (q3, .inl (cI, 6, (.inl (fun _ => 0)))), (q5, .inl (cI, 49152, (.inl (fun _ => 0)))), (q7, .inl (cZ, 768, (.inl (fun _ => 0)))), (q176, .inl (cC, 66, (.inl (g_208))))] := hD_788
  clear hD_788
  refine lv_dup hx hb dX12_init_940 rfl ?_
  refine lv_bipush (v := 32) hx hb dX12_init_941 (by decide) ?_
  refine lv_bipush (v := 97) hx hb dX12_init_943 (by decide) ?_
  refine va_cast hx hb hK hP_789 hD_790 hS_788 5 4 rfl rfl (vp_in_nI (n := 32) (N := 66) (by decide) (by decide)) dX12_init_945 (fun H_791 locs_791 hP_791 hD_791 hS_791 => ?_)
  clear hP_789 hD_790 hS_788
  obtain ⟨g_209, eg_209⟩ : ∃ y, y = upd (g_208) (32 : Int32).toNatClampNeg (vp_nar .char 97) := ⟨_, rfl⟩
  rw [← eg_209] at hP_791 hD_791
  clear eg_209
  have hP_792 : va_P (dC, dI) vwCl [(h0, .inr (12, fs_175)), (q1, .inl (cI, 4000, (.inl (fun _ => 0)))), (q3, .inl (cI, 6, (.inl (fun _ => 0)))), (q5, .inl (cI, 49152, (.inl (fun _ => 0)))), (q7, .inl (cZ, 768, (.inl (fun _ => 0)))), (q176, .inl (cC, 66, (.inl (g_209))))] H_791 := hP_791
  clear hP_791
  have hD_793 : va_D A [(h0, .inr (12, fs_175)), (q1, .inl (cI, 4000, (.inl (fun _ => 0)))), (q3, .inl (cI, 6, (.inl (fun _ => 0)))), (q5, .inl (cI, 49152, (.inl (fun _ => 0)))), (q7, .inl (cZ, 768, (.inl (fun _ => 0)))), (q176, .inl (cC, 66, (.inl (g_209))))] := hD_791
  clear hD_791
  refine lv_dup hx hb dX12_init_946 rfl ?_
  refine lv_bipush (v := 33) hx hb dX12_init_947 (by decide) ?_
  refine lv_bipush (v := 100) hx hb dX12_init_949 (by decide) ?_
  refine va_cast hx hb hK hP_792 hD_793 hS_791 5 4 rfl rfl (vp_in_nI (n := 33) (N := 66) (by decide) (by decide)) dX12_init_951 (fun H_794 locs_794 hP_794 hD_794 hS_794 => ?_)
  clear hP_792 hD_793 hS_791
  obtain ⟨g_210, eg_210⟩ : ∃ y, y = upd (g_209) (33 : Int32).toNatClampNeg (vp_nar .char 100) := ⟨_, rfl⟩
  rw [← eg_210] at hP_794 hD_794
  clear eg_210
  have hP_795 : va_P (dC, dI) vwCl [(h0, .inr (12, fs_175)), (q1, .inl (cI, 4000, (.inl (fun _ => 0)))), (q3, .inl (cI, 6, (.inl (fun _ => 0)))), (q5, .inl (cI, 49152, (.inl (fun _ => 0)))), (q7, .inl (cZ, 768, (.inl (fun _ => 0)))), (q176, .inl (cC, 66, (.inl (g_210))))] H_794 := hP_794
  clear hP_794
  have hD_796 : va_D A [(h0, .inr (12, fs_175)), (q1, .inl (cI, 4000, (.inl (fun _ => 0)))), (q3, .inl (cI, 6, (.inl (fun _ => 0)))), (q5, .inl (cI, 49152, (.inl (fun _ => 0)))), (q7, .inl (cZ, 768, (.inl (fun _ => 0)))), (q176, .inl (cC, 66, (.inl (g_210))))] := hD_794
  clear hD_794
  refine lv_dup hx hb dX12_init_952 rfl ?_
  refine lv_bipush (v := 34) hx hb dX12_init_953 (by decide) ?_
  refine lv_bipush (v := 101) hx hb dX12_init_955 (by decide) ?_
  refine va_cast hx hb hK hP_795 hD_796 hS_794 5 4 rfl rfl (vp_in_nI (n := 34) (N := 66) (by decide) (by decide)) dX12_init_957 (fun H_797 locs_797 hP_797 hD_797 hS_797 => ?_)
  clear hP_795 hD_796 hS_794
  obtain ⟨g_211, eg_211⟩ : ∃ y, y = upd (g_210) (34 : Int32).toNatClampNeg (vp_nar .char 101) := ⟨_, rfl⟩
  rw [← eg_211] at hP_797 hD_797
  clear eg_211
  have hP_798 : va_P (dC, dI) vwCl [(h0, .inr (12, fs_175)), (q1, .inl (cI, 4000, (.inl (fun _ => 0)))), (q3, .inl (cI, 6, (.inl (fun _ => 0)))), (q5, .inl (cI, 49152, (.inl (fun _ => 0)))), (q7, .inl (cZ, 768, (.inl (fun _ => 0)))), (q176, .inl (cC, 66, (.inl (g_211))))] H_797 := hP_797
  clear hP_797
  have hD_799 : va_D A [(h0, .inr (12, fs_175)), (q1, .inl (cI, 4000, (.inl (fun _ => 0)))), (q3, .inl (cI, 6, (.inl (fun _ => 0)))), (q5, .inl (cI, 49152, (.inl (fun _ => 0)))), (q7, .inl (cZ, 768, (.inl (fun _ => 0)))), (q176, .inl (cC, 66, (.inl (g_211))))] := hD_797
  clear hD_797
  refine lv_dup hx hb dX12_init_958 rfl ?_
  refine lv_bipush (v := 35) hx hb dX12_init_959 (by decide) ?_
  refine lv_bipush (v := 32) hx hb dX12_init_961 (by decide) ?_
  refine va_cast hx hb hK hP_798 hD_799 hS_797 5 4 rfl rfl (vp_in_nI (n := 35) (N := 66) (by decide) (by decide)) dX12_init_963 (fun H_800 locs_800 hP_800 hD_800 hS_800 => ?_)
  clear hP_798 hD_799 hS_797
  obtain ⟨g_212, eg_212⟩ : ∃ y, y = upd (g_211) (35 : Int32).toNatClampNeg (vp_nar .char 32) := ⟨_, rfl⟩
  rw [← eg_212] at hP_800 hD_800
  clear eg_212
  have hP_801 : va_P (dC, dI) vwCl [(h0, .inr (12, fs_175)), (q1, .inl (cI, 4000, (.inl (fun _ => 0)))), (q3, .inl (cI, 6, (.inl (fun _ => 0)))), (q5, .inl (cI, 49152, (.inl (fun _ => 0)))), (q7, .inl (cZ, 768, (.inl (fun _ => 0)))), (q176, .inl (cC, 66, (.inl (g_212))))] H_800 := hP_800
  clear hP_800
  have hD_802 : va_D A [(h0, .inr (12, fs_175)), (q1, .inl (cI, 4000, (.inl (fun _ => 0)))), (q3, .inl (cI, 6, (.inl (fun _ => 0)))), (q5, .inl (cI, 49152, (.inl (fun _ => 0)))), (q7, .inl (cZ, 768, (.inl (fun _ => 0)))), (q176, .inl (cC, 66, (.inl (g_212))))] := hD_800
  clear hD_800
  refine lv_dup hx hb dX12_init_964 rfl ?_
  refine lv_bipush (v := 36) hx hb dX12_init_965 (by decide) ?_
  refine lv_bipush (v := 98) hx hb dX12_init_967 (by decide) ?_
  refine va_cast hx hb hK hP_801 hD_802 hS_800 5 4 rfl rfl (vp_in_nI (n := 36) (N := 66) (by decide) (by decide)) dX12_init_969 (fun H_803 locs_803 hP_803 hD_803 hS_803 => ?_)
  clear hP_801 hD_802 hS_800
  obtain ⟨g_213, eg_213⟩ : ∃ y, y = upd (g_212) (36 : Int32).toNatClampNeg (vp_nar .char 98) := ⟨_, rfl⟩
  rw [← eg_213] at hP_803 hD_803
  clear eg_213
  have hP_804 : va_P (dC, dI) vwCl [(h0, .inr (12, fs_175)), (q1, .inl (cI, 4000, (.inl (fun _ => 0)))), (q3, .inl (cI, 6, (.inl (fun _ => 0)))), (q5, .inl (cI, 49152, (.inl (fun _ => 0)))), (q7, .inl (cZ, 768, (.inl (fun _ => 0)))), (q176, .inl (cC, 66, (.inl (g_213))))] H_803 := hP_803
  clear hP_803
  have hD_805 : va_D A [(h0, .inr (12, fs_175)), (q1, .inl (cI, 4000, (.inl (fun _ => 0)))), (q3, .inl (cI, 6, (.inl (fun _ => 0)))), (q5, .inl (cI, 49152, (.inl (fun _ => 0)))), (q7, .inl (cZ, 768, (.inl (fun _ => 0)))), (q176, .inl (cC, 66, (.inl (g_213))))] := hD_803
  clear hD_803
  refine lv_dup hx hb dX12_init_970 rfl ?_
  refine lv_bipush (v := 37) hx hb dX12_init_971 (by decide) ?_
  refine lv_bipush (v := 108) hx hb dX12_init_973 (by decide) ?_
  refine va_cast hx hb hK hP_804 hD_805 hS_803 5 4 rfl rfl (vp_in_nI (n := 37) (N := 66) (by decide) (by decide)) dX12_init_975 (fun H_806 locs_806 hP_806 hD_806 hS_806 => ?_)
  clear hP_804 hD_805 hS_803
  obtain ⟨g_214, eg_214⟩ : ∃ y, y = upd (g_213) (37 : Int32).toNatClampNeg (vp_nar .char 108) := ⟨_, rfl⟩
  rw [← eg_214] at hP_806 hD_806
  clear eg_214
  have hP_807 : va_P (dC, dI) vwCl [(h0, .inr (12, fs_175)), (q1, .inl (cI, 4000, (.inl (fun _ => 0)))), (q3, .inl (cI, 6, (.inl (fun _ => 0)))), (q5, .inl (cI, 49152, (.inl (fun _ => 0)))), (q7, .inl (cZ, 768, (.inl (fun _ => 0)))), (q176, .inl (cC, 66, (.inl (g_214))))] H_806 := hP_806
  clear hP_806
  have hD_808 : va_D A [(h0, .inr (12, fs_175)), (q1, .inl (cI, 4000, (.inl (fun _ => 0)))), (q3, .inl (cI, 6, (.inl (fun _ => 0)))), (q5, .inl (cI, 49152, (.inl (fun _ => 0)))), (q7, .inl (cZ, 768, (.inl (fun _ => 0)))), (q176, .inl (cC, 66, (.inl (g_214))))] := hD_806
  clear hD_806
  refine lv_dup hx hb dX12_init_976 rfl ?_
  refine lv_bipush (v := 38) hx hb dX12_init_977 (by decide) ?_
  refine lv_bipush (v := 111) hx hb dX12_init_979 (by decide) ?_
  refine va_cast hx hb hK hP_807 hD_808 hS_806 5 4 rfl rfl (vp_in_nI (n := 38) (N := 66) (by decide) (by decide)) dX12_init_981 (fun H_809 locs_809 hP_809 hD_809 hS_809 => ?_)
  clear hP_807 hD_808 hS_806
  obtain ⟨g_215, eg_215⟩ : ∃ y, y = upd (g_214) (38 : Int32).toNatClampNeg (vp_nar .char 111) := ⟨_, rfl⟩
  rw [← eg_215] at hP_809 hD_809
  clear eg_215
  have hP_810 : va_P (dC, dI) vwCl [(h0, .inr (12, fs_175)), (q1, .inl (cI, 4000, (.inl (fun _ => 0)))), (q3, .inl (cI, 6, (.inl (fun _ => 0)))), (q5, .inl (cI, 49152, (.inl (fun _ => 0)))), (q7, .inl (cZ, 768, (.inl (fun _ => 0)))), (q176, .inl (cC, 66, (.inl (g_215))))] H_809 := hP_809
  clear hP_809
  have hD_811 : va_D A [(h0, .inr (12, fs_175)), (q1, .inl (cI, 4000, (.inl (fun _ => 0)))), (q3, .inl (cI, 6, (.inl (fun _ => 0)))), (q5, .inl (cI, 49152, (.inl (fun _ => 0)))), (q7, .inl (cZ, 768, (.inl (fun _ => 0)))), (q176, .inl (cC, 66, (.inl (g_215))))] := hD_809
  clear hD_809
  refine lv_dup hx hb dX12_init_982 rfl ?_
  refine lv_bipush (v := 39) hx hb dX12_init_983 (by decide) ?_
  refine lv_bipush (v := 99) hx hb dX12_init_985 (by decide) ?_
  refine va_cast hx hb hK hP_810 hD_811 hS_809 5 4 rfl rfl (vp_in_nI (n := 39) (N := 66) (by decide) (by decide)) dX12_init_987 (fun H_812 locs_812 hP_812 hD_812 hS_812 => ?_)
  clear hP_810 hD_811 hS_809
  obtain ⟨g_216, eg_216⟩ : ∃ y, y = upd (g_215) (39 : Int32).toNatClampNeg (vp_nar .char 99) := ⟨_, rfl⟩
  rw [← eg_216] at hP_812 hD_812
  clear eg_216
  have hP_813 : va_P (dC, dI) vwCl [(h0, .inr (12, fs_175)), (q1, .inl (cI, 4000, (.inl (fun _ => 0)))), (q3, .inl (cI, 6, (.inl (fun _ => 0)))), (q5, .inl (cI, 49152, (.inl (fun _ => 0)))), (q7, .inl (cZ, 768, (.inl (fun _ => 0)))), (q176, .inl (cC, 66, (.inl (g_216))))] H_812 := hP_812
  clear hP_812
  have hD_814 : va_D A [(h0, .inr (12, fs_175)), (q1, .inl (cI, 4000, (.inl (fun _ => 0)))), (q3, .inl (cI, 6, (.inl (fun _ => 0)))), (q5, .inl (cI, 49152, (.inl (fun _ => 0)))), (q7, .inl (cZ, 768, (.inl (fun _ => 0)))), (q176, .inl (cC, 66, (.inl (g_216))))] := hD_812
  clear hD_812
  refine lv_dup hx hb dX12_init_988 rfl ?_
  refine lv_bipush (v := 40) hx hb dX12_init_989 (by decide) ?_
  refine lv_bipush (v := 107) hx hb dX12_init_991 (by decide) ?_
  refine va_cast hx hb hK hP_813 hD_814 hS_812 5 4 rfl rfl (vp_in_nI (n := 40) (N := 66) (by decide) (by decide)) dX12_init_993 (fun H_815 locs_815 hP_815 hD_815 hS_815 => ?_)
  clear hP_813 hD_814 hS_812
  obtain ⟨g_217, eg_217⟩ : ∃ y, y = upd (g_216) (40 : Int32).toNatClampNeg (vp_nar .char 107) := ⟨_, rfl⟩
  rw [← eg_217] at hP_815 hD_815
  clear eg_217
  have hP_816 : va_P (dC, dI) vwCl [(h0, .inr (12, fs_175)), (q1, .inl (cI, 4000, (.inl (fun _ => 0)))), (q3, .inl (cI, 6, (.inl (fun _ => 0)))), (q5, .inl (cI, 49152, (.inl (fun _ => 0)))), (q7, .inl (cZ, 768, (.inl (fun _ => 0)))), (q176, .inl (cC, 66, (.inl (g_217))))] H_815 := hP_815
  clear hP_815
  have hD_817 : va_D A [(h0, .inr (12, fs_175)), (q1, .inl (cI, 4000, (.inl (fun _ => 0)))), (q3, .inl (cI, 6, (.inl (fun _ => 0)))), (q5, .inl (cI, 49152, (.inl (fun _ => 0)))), (q7, .inl (cZ, 768, (.inl (fun _ => 0)))), (q176, .inl (cC, 66, (.inl (g_217))))] := hD_815
  clear hD_815
  refine lv_dup hx hb dX12_init_994 rfl ?_
  refine lv_bipush (v := 41) hx hb dX12_init_995 (by decide) ?_
  refine lv_bipush (v := 32) hx hb dX12_init_997 (by decide) ?_
  refine va_cast hx hb hK hP_816 hD_817 hS_815 5 4 rfl rfl (vp_in_nI (n := 41) (N := 66) (by decide) (by decide)) dX12_init_999 (fun H_818 locs_818 hP_818 hD_818 hS_818 => ?_)
  clear hP_816 hD_817 hS_815
  obtain ⟨g_218, eg_218⟩ : ∃ y, y = upd (g_217) (41 : Int32).toNatClampNeg (vp_nar .char 32) := ⟨_, rfl⟩
  rw [← eg_218] at hP_818 hD_818
  clear eg_218
  have hP_819 : va_P (dC, dI) vwCl [(h0, .inr (12, fs_175)), (q1, .inl (cI, 4000, (.inl (fun _ => 0)))), (q3, .inl (cI, 6, (.inl (fun _ => 0)))), (q5, .inl (cI, 49152, (.inl (fun _ => 0)))), (q7, .inl (cZ, 768, (.inl (fun _ => 0)))), (q176, .inl (cC, 66, (.inl (g_218))))] H_818 := hP_818
  clear hP_818
  have hD_820 : va_D A [(h0, .inr (12, fs_175)), (q1, .inl (cI, 4000, (.inl (fun _ => 0)))), (q3, .inl (cI, 6, (.inl (fun _ => 0)))), (q5, .inl (cI, 49152, (.inl (fun _ => 0)))), (q7, .inl (cZ, 768, (.inl (fun _ => 0)))), (q176, .inl (cC, 66, (.inl (g_218))))] := hD_818
  clear hD_818
  refine lv_dup hx hb dX12_init_1000 rfl ?_
  refine lv_bipush (v := 42) hx hb dX12_init_1001 (by decide) ?_
  refine lv_bipush (v := 112) hx hb dX12_init_1003 (by decide) ?_
  refine va_cast hx hb hK hP_819 hD_820 hS_818 5 4 rfl rfl (vp_in_nI (n := 42) (N := 66) (by decide) (by decide)) dX12_init_1005 (fun H_821 locs_821 hP_821 hD_821 hS_821 => ?_)
  clear hP_819 hD_820 hS_818
  obtain ⟨g_219, eg_219⟩ : ∃ y, y = upd (g_218) (42 : Int32).toNatClampNeg (vp_nar .char 112) := ⟨_, rfl⟩
  rw [← eg_219] at hP_821 hD_821
  clear eg_219
  have hP_822 : va_P (dC, dI) vwCl [(h0, .inr (12, fs_175)), (q1, .inl (cI, 4000, (.inl (fun _ => 0)))), (q3, .inl (cI, 6, (.inl (fun _ => 0)))), (q5, .inl (cI, 49152, (.inl (fun _ => 0)))), (q7, .inl (cZ, 768, (.inl (fun _ => 0)))), (q176, .inl (cC, 66, (.inl (g_219))))] H_821 := hP_821
  clear hP_821
  have hD_823 : va_D A [(h0, .inr (12, fs_175)), (q1, .inl (cI, 4000, (.inl (fun _ => 0)))), (q3, .inl (cI, 6, (.inl (fun _ => 0)))), (q5, .inl (cI, 49152, (.inl (fun _ => 0)))), (q7, .inl (cZ, 768, (.inl (fun _ => 0)))), (q176, .inl (cC, 66, (.inl (g_219))))] := hD_821
  clear hD_821
  refine lv_dup hx hb dX12_init_1006 rfl ?_
  refine lv_bipush (v := 43) hx hb dX12_init_1007 (by decide) ?_
  refine lv_bipush (v := 97) hx hb dX12_init_1009 (by decide) ?_
  refine va_cast hx hb hK hP_822 hD_823 hS_821 5 4 rfl rfl (vp_in_nI (n := 43) (N := 66) (by decide) (by decide)) dX12_init_1011 (fun H_824 locs_824 hP_824 hD_824 hS_824 => ?_)
  clear hP_822 hD_823 hS_821
  obtain ⟨g_220, eg_220⟩ : ∃ y, y = upd (g_219) (43 : Int32).toNatClampNeg (vp_nar .char 97) := ⟨_, rfl⟩
  rw [← eg_220] at hP_824 hD_824
  clear eg_220
  have hP_825 : va_P (dC, dI) vwCl [(h0, .inr (12, fs_175)), (q1, .inl (cI, 4000, (.inl (fun _ => 0)))), (q3, .inl (cI, 6, (.inl (fun _ => 0)))), (q5, .inl (cI, 49152, (.inl (fun _ => 0)))), (q7, .inl (cZ, 768, (.inl (fun _ => 0)))), (q176, .inl (cC, 66, (.inl (g_220))))] H_824 := hP_824
  clear hP_824
  have hD_826 : va_D A [(h0, .inr (12, fs_175)), (q1, .inl (cI, 4000, (.inl (fun _ => 0)))), (q3, .inl (cI, 6, (.inl (fun _ => 0)))), (q5, .inl (cI, 49152, (.inl (fun _ => 0)))), (q7, .inl (cZ, 768, (.inl (fun _ => 0)))), (q176, .inl (cC, 66, (.inl (g_220))))] := hD_824
  clear hD_824
  refine lv_dup hx hb dX12_init_1012 rfl ?_
  refine lv_bipush (v := 44) hx hb dX12_init_1013 (by decide) ?_
  refine lv_bipush (v := 114) hx hb dX12_init_1015 (by decide) ?_
  refine va_cast hx hb hK hP_825 hD_826 hS_824 5 4 rfl rfl (vp_in_nI (n := 44) (N := 66) (by decide) (by decide)) dX12_init_1017 (fun H_827 locs_827 hP_827 hD_827 hS_827 => ?_)
  clear hP_825 hD_826 hS_824
  obtain ⟨g_221, eg_221⟩ : ∃ y, y = upd (g_220) (44 : Int32).toNatClampNeg (vp_nar .char 114) := ⟨_, rfl⟩
  rw [← eg_221] at hP_827 hD_827
  clear eg_221
  have hP_828 : va_P (dC, dI) vwCl [(h0, .inr (12, fs_175)), (q1, .inl (cI, 4000, (.inl (fun _ => 0)))), (q3, .inl (cI, 6, (.inl (fun _ => 0)))), (q5, .inl (cI, 49152, (.inl (fun _ => 0)))), (q7, .inl (cZ, 768, (.inl (fun _ => 0)))), (q176, .inl (cC, 66, (.inl (g_221))))] H_827 := hP_827
  clear hP_827
  have hD_829 : va_D A [(h0, .inr (12, fs_175)), (q1, .inl (cI, 4000, (.inl (fun _ => 0)))), (q3, .inl (cI, 6, (.inl (fun _ => 0)))), (q5, .inl (cI, 49152, (.inl (fun _ => 0)))), (q7, .inl (cZ, 768, (.inl (fun _ => 0)))), (q176, .inl (cC, 66, (.inl (g_221))))] := hD_827
  clear hD_827
  refine lv_dup hx hb dX12_init_1018 rfl ?_
  refine lv_bipush (v := 45) hx hb dX12_init_1019 (by decide) ?_
  refine lv_bipush (v := 116) hx hb dX12_init_1021 (by decide) ?_
  refine va_cast hx hb hK hP_828 hD_829 hS_827 5 4 rfl rfl (vp_in_nI (n := 45) (N := 66) (by decide) (by decide)) dX12_init_1023 (fun H_830 locs_830 hP_830 hD_830 hS_830 => ?_)
  clear hP_828 hD_829 hS_827
  obtain ⟨g_222, eg_222⟩ : ∃ y, y = upd (g_221) (45 : Int32).toNatClampNeg (vp_nar .char 116) := ⟨_, rfl⟩
  rw [← eg_222] at hP_830 hD_830
  clear eg_222
  have hP_831 : va_P (dC, dI) vwCl [(h0, .inr (12, fs_175)), (q1, .inl (cI, 4000, (.inl (fun _ => 0)))), (q3, .inl (cI, 6, (.inl (fun _ => 0)))), (q5, .inl (cI, 49152, (.inl (fun _ => 0)))), (q7, .inl (cZ, 768, (.inl (fun _ => 0)))), (q176, .inl (cC, 66, (.inl (g_222))))] H_830 := hP_830
  clear hP_830
  have hD_832 : va_D A [(h0, .inr (12, fs_175)), (q1, .inl (cI, 4000, (.inl (fun _ => 0)))), (q3, .inl (cI, 6, (.inl (fun _ => 0)))), (q5, .inl (cI, 49152, (.inl (fun _ => 0)))), (q7, .inl (cZ, 768, (.inl (fun _ => 0)))), (q176, .inl (cC, 66, (.inl (g_222))))] := hD_830
  clear hD_830
  refine lv_dup hx hb dX12_init_1024 rfl ?_
  refine lv_bipush (v := 46) hx hb dX12_init_1025 (by decide) ?_
  refine lv_bipush (v := 115) hx hb dX12_init_1027 (by decide) ?_
  refine va_cast hx hb hK hP_831 hD_832 hS_830 5 4 rfl rfl (vp_in_nI (n := 46) (N := 66) (by decide) (by decide)) dX12_init_1029 (fun H_833 locs_833 hP_833 hD_833 hS_833 => ?_)
  clear hP_831 hD_832 hS_830
  obtain ⟨g_223, eg_223⟩ : ∃ y, y = upd (g_222) (46 : Int32).toNatClampNeg (vp_nar .char 115) := ⟨_, rfl⟩
  rw [← eg_223] at hP_833 hD_833
  clear eg_223
  have hP_834 : va_P (dC, dI) vwCl [(h0, .inr (12, fs_175)), (q1, .inl (cI, 4000, (.inl (fun _ => 0)))), (q3, .inl (cI, 6, (.inl (fun _ => 0)))), (q5, .inl (cI, 49152, (.inl (fun _ => 0)))), (q7, .inl (cZ, 768, (.inl (fun _ => 0)))), (q176, .inl (cC, 66, (.inl (g_223))))] H_833 := hP_833
  clear hP_833
  have hD_835 : va_D A [(h0, .inr (12, fs_175)), (q1, .inl (cI, 4000, (.inl (fun _ => 0)))), (q3, .inl (cI, 6, (.inl (fun _ => 0)))), (q5, .inl (cI, 49152, (.inl (fun _ => 0)))), (q7, .inl (cZ, 768, (.inl (fun _ => 0)))), (q176, .inl (cC, 66, (.inl (g_223))))] := hD_833
  clear hD_833
  refine lv_dup hx hb dX12_init_1030 rfl ?_
  refine lv_bipush (v := 47) hx hb dX12_init_1031 (by decide) ?_
  refine lv_bipush (v := 32) hx hb dX12_init_1033 (by decide) ?_
  refine va_cast hx hb hK hP_834 hD_835 hS_833 5 4 rfl rfl (vp_in_nI (n := 47) (N := 66) (by decide) (by decide)) dX12_init_1035 (fun H_836 locs_836 hP_836 hD_836 hS_836 => ?_)
  clear hP_834 hD_835 hS_833
  obtain ⟨g_224, eg_224⟩ : ∃ y, y = upd (g_223) (47 : Int32).toNatClampNeg (vp_nar .char 32) := ⟨_, rfl⟩
  rw [← eg_224] at hP_836 hD_836
  clear eg_224
  have hP_837 : va_P (dC, dI) vwCl [(h0, .inr (12, fs_175)), (q1, .inl (cI, 4000, (.inl (fun _ => 0)))), (q3, .inl (cI, 6, (.inl (fun _ => 0)))), (q5, .inl (cI, 49152, (.inl (fun _ => 0)))), (q7, .inl (cZ, 768, (.inl (fun _ => 0)))), (q176, .inl (cC, 66, (.inl (g_224))))] H_836 := hP_836
  clear hP_836
  have hD_838 : va_D A [(h0, .inr (12, fs_175)), (q1, .inl (cI, 4000, (.inl (fun _ => 0)))), (q3, .inl (cI, 6, (.inl (fun _ => 0)))), (q5, .inl (cI, 49152, (.inl (fun _ => 0)))), (q7, .inl (cZ, 768, (.inl (fun _ => 0)))), (q176, .inl (cC, 66, (.inl (g_224))))] := hD_836
  clear hD_836
  refine lv_dup hx hb dX12_init_1036 rfl ?_
  refine lv_bipush (v := 48) hx hb dX12_init_1037 (by decide) ?_
  refine lv_bipush (v := 102) hx hb dX12_init_1039 (by decide) ?_
  refine va_cast hx hb hK hP_837 hD_838 hS_836 5 4 rfl rfl (vp_in_nI (n := 48) (N := 66) (by decide) (by decide)) dX12_init_1041 (fun H_839 locs_839 hP_839 hD_839 hS_839 => ?_)
  clear hP_837 hD_838 hS_836
  obtain ⟨g_225, eg_225⟩ : ∃ y, y = upd (g_224) (48 : Int32).toNatClampNeg (vp_nar .char 102) := ⟨_, rfl⟩
  rw [← eg_225] at hP_839 hD_839
  clear eg_225
  have hP_840 : va_P (dC, dI) vwCl [(h0, .inr (12, fs_175)), (q1, .inl (cI, 4000, (.inl (fun _ => 0)))), (q3, .inl (cI, 6, (.inl (fun _ => 0)))), (q5, .inl (cI, 49152, (.inl (fun _ => 0)))), (q7, .inl (cZ, 768, (.inl (fun _ => 0)))), (q176, .inl (cC, 66, (.inl (g_225))))] H_839 := hP_839
  clear hP_839
  have hD_841 : va_D A [(h0, .inr (12, fs_175)), (q1, .inl (cI, 4000, (.inl (fun _ => 0)))), (q3, .inl (cI, 6, (.inl (fun _ => 0)))), (q5, .inl (cI, 49152, (.inl (fun _ => 0)))), (q7, .inl (cZ, 768, (.inl (fun _ => 0)))), (q176, .inl (cC, 66, (.inl (g_225))))] := hD_839
  clear hD_839
  refine lv_dup hx hb dX12_init_1042 rfl ?_
  refine lv_bipush (v := 49) hx hb dX12_init_1043 (by decide) ?_
  refine lv_bipush (v := 97) hx hb dX12_init_1045 (by decide) ?_
  refine va_cast hx hb hK hP_840 hD_841 hS_839 5 4 rfl rfl (vp_in_nI (n := 49) (N := 66) (by decide) (by decide)) dX12_init_1047 (fun H_842 locs_842 hP_842 hD_842 hS_842 => ?_)
  clear hP_840 hD_841 hS_839
  obtain ⟨g_226, eg_226⟩ : ∃ y, y = upd (g_225) (49 : Int32).toNatClampNeg (vp_nar .char 97) := ⟨_, rfl⟩
  rw [← eg_226] at hP_842 hD_842
  clear eg_226
  have hP_843 : va_P (dC, dI) vwCl [(h0, .inr (12, fs_175)), (q1, .inl (cI, 4000, (.inl (fun _ => 0)))), (q3, .inl (cI, 6, (.inl (fun _ => 0)))), (q5, .inl (cI, 49152, (.inl (fun _ => 0)))), (q7, .inl (cZ, 768, (.inl (fun _ => 0)))), (q176, .inl (cC, 66, (.inl (g_226))))] H_842 := hP_842
  clear hP_842
  have hD_844 : va_D A [(h0, .inr (12, fs_175)), (q1, .inl (cI, 4000, (.inl (fun _ => 0)))), (q3, .inl (cI, 6, (.inl (fun _ => 0)))), (q5, .inl (cI, 49152, (.inl (fun _ => 0)))), (q7, .inl (cZ, 768, (.inl (fun _ => 0)))), (q176, .inl (cC, 66, (.inl (g_226))))] := hD_842
  clear hD_842
  refine lv_dup hx hb dX12_init_1048 rfl ?_
  refine lv_bipush (v := 50) hx hb dX12_init_1049 (by decide) ?_
  refine lv_bipush (v := 117) hx hb dX12_init_1051 (by decide) ?_
  refine va_cast hx hb hK hP_843 hD_844 hS_842 5 4 rfl rfl (vp_in_nI (n := 50) (N := 66) (by decide) (by decide)) dX12_init_1053 (fun H_845 locs_845 hP_845 hD_845 hS_845 => ?_)
  clear hP_843 hD_844 hS_842
  obtain ⟨g_227, eg_227⟩ : ∃ y, y = upd (g_226) (50 : Int32).toNatClampNeg (vp_nar .char 117) := ⟨_, rfl⟩
  rw [← eg_227] at hP_845 hD_845
  clear eg_227
  have hP_846 : va_P (dC, dI) vwCl [(h0, .inr (12, fs_175)), (q1, .inl (cI, 4000, (.inl (fun _ => 0)))), (q3, .inl (cI, 6, (.inl (fun _ => 0)))), (q5, .inl (cI, 49152, (.inl (fun _ => 0)))), (q7, .inl (cZ, 768, (.inl (fun _ => 0)))), (q176, .inl (cC, 66, (.inl (g_227))))] H_845 := hP_845
  clear hP_845
  have hD_847 : va_D A [(h0, .inr (12, fs_175)), (q1, .inl (cI, 4000, (.inl (fun _ => 0)))), (q3, .inl (cI, 6, (.inl (fun _ => 0)))), (q5, .inl (cI, 49152, (.inl (fun _ => 0)))), (q7, .inl (cZ, 768, (.inl (fun _ => 0)))), (q176, .inl (cC, 66, (.inl (g_227))))] := hD_845
  clear hD_845
  refine lv_dup hx hb dX12_init_1054 rfl ?_
  refine lv_bipush (v := 51) hx hb dX12_init_1055 (by decide) ?_
  refine lv_bipush (v := 108) hx hb dX12_init_1057 (by decide) ?_
  refine va_cast hx hb hK hP_846 hD_847 hS_845 5 4 rfl rfl (vp_in_nI (n := 51) (N := 66) (by decide) (by decide)) dX12_init_1059 (fun H_848 locs_848 hP_848 hD_848 hS_848 => ?_)
  clear hP_846 hD_847 hS_845
  obtain ⟨g_228, eg_228⟩ : ∃ y, y = upd (g_227) (51 : Int32).toNatClampNeg (vp_nar .char 108) := ⟨_, rfl⟩
  rw [← eg_228] at hP_848 hD_848
  clear eg_228
  have hP_849 : va_P (dC, dI) vwCl [(h0, .inr (12, fs_175)), (q1, .inl (cI, 4000, (.inl (fun _ => 0)))), (q3, .inl (cI, 6, (.inl (fun _ => 0)))), (q5, .inl (cI, 49152, (.inl (fun _ => 0)))), (q7, .inl (cZ, 768, (.inl (fun _ => 0)))), (q176, .inl (cC, 66, (.inl (g_228))))] H_848 := hP_848
  clear hP_848
  have hD_850 : va_D A [(h0, .inr (12, fs_175)), (q1, .inl (cI, 4000, (.inl (fun _ => 0)))), (q3, .inl (cI, 6, (.inl (fun _ => 0)))), (q5, .inl (cI, 49152, (.inl (fun _ => 0)))), (q7, .inl (cZ, 768, (.inl (fun _ => 0)))), (q176, .inl (cC, 66, (.inl (g_228))))] := hD_848
  clear hD_848
  refine lv_dup hx hb dX12_init_1060 rfl ?_
  refine lv_bipush (v := 52) hx hb dX12_init_1061 (by decide) ?_
  refine lv_bipush (v := 116) hx hb dX12_init_1063 (by decide) ?_
  refine va_cast hx hb hK hP_849 hD_850 hS_848 5 4 rfl rfl (vp_in_nI (n := 52) (N := 66) (by decide) (by decide)) dX12_init_1065 (fun H_851 locs_851 hP_851 hD_851 hS_851 => ?_)
  clear hP_849 hD_850 hS_848
  obtain ⟨g_229, eg_229⟩ : ∃ y, y = upd (g_228) (52 : Int32).toNatClampNeg (vp_nar .char 116) := ⟨_, rfl⟩
  rw [← eg_229] at hP_851 hD_851
  clear eg_229
  have hP_852 : va_P (dC, dI) vwCl [(h0, .inr (12, fs_175)), (q1, .inl (cI, 4000, (.inl (fun _ => 0)))), (q3, .inl (cI, 6, (.inl (fun _ => 0)))), (q5, .inl (cI, 49152, (.inl (fun _ => 0)))), (q7, .inl (cZ, 768, (.inl (fun _ => 0)))), (q176, .inl (cC, 66, (.inl (g_229))))] H_851 := hP_851
  clear hP_851
  have hD_853 : va_D A [(h0, .inr (12, fs_175)), (q1, .inl (cI, 4000, (.inl (fun _ => 0)))), (q3, .inl (cI, 6, (.inl (fun _ => 0)))), (q5, .inl (cI, 49152, (.inl (fun _ => 0)))), (q7, .inl (cZ, 768, (.inl (fun _ => 0)))), (q176, .inl (cC, 66, (.inl (g_229))))] := hD_851
  clear hD_851
  refine lv_dup hx hb dX12_init_1066 rfl ?_
  refine lv_bipush (v := 53) hx hb dX12_init_1067 (by decide) ?_
  refine lv_bipush (v := 115) hx hb dX12_init_1069 (by decide) ?_
  refine va_cast hx hb hK hP_852 hD_853 hS_851 5 4 rfl rfl (vp_in_nI (n := 53) (N := 66) (by decide) (by decide)) dX12_init_1071 (fun H_854 locs_854 hP_854 hD_854 hS_854 => ?_)
  clear hP_852 hD_853 hS_851
  obtain ⟨g_230, eg_230⟩ : ∃ y, y = upd (g_229) (53 : Int32).toNatClampNeg (vp_nar .char 115) := ⟨_, rfl⟩
  rw [← eg_230] at hP_854 hD_854
  clear eg_230
  have hP_855 : va_P (dC, dI) vwCl [(h0, .inr (12, fs_175)), (q1, .inl (cI, 4000, (.inl (fun _ => 0)))), (q3, .inl (cI, 6, (.inl (fun _ => 0)))), (q5, .inl (cI, 49152, (.inl (fun _ => 0)))), (q7, .inl (cZ, 768, (.inl (fun _ => 0)))), (q176, .inl (cC, 66, (.inl (g_230))))] H_854 := hP_854
  clear hP_854
  have hD_856 : va_D A [(h0, .inr (12, fs_175)), (q1, .inl (cI, 4000, (.inl (fun _ => 0)))), (q3, .inl (cI, 6, (.inl (fun _ => 0)))), (q5, .inl (cI, 49152, (.inl (fun _ => 0)))), (q7, .inl (cZ, 768, (.inl (fun _ => 0)))), (q176, .inl (cC, 66, (.inl (g_230))))] := hD_854
  clear hD_854
  refine lv_dup hx hb dX12_init_1072 rfl ?_
  refine lv_bipush (v := 54) hx hb dX12_init_1073 (by decide) ?_
  refine lv_bipush (v := 32) hx hb dX12_init_1075 (by decide) ?_
  refine va_cast hx hb hK hP_855 hD_856 hS_854 5 4 rfl rfl (vp_in_nI (n := 54) (N := 66) (by decide) (by decide)) dX12_init_1077 (fun H_857 locs_857 hP_857 hD_857 hS_857 => ?_)
  clear hP_855 hD_856 hS_854
  obtain ⟨g_231, eg_231⟩ : ∃ y, y = upd (g_230) (54 : Int32).toNatClampNeg (vp_nar .char 32) := ⟨_, rfl⟩
  rw [← eg_231] at hP_857 hD_857
  clear eg_231
  have hP_858 : va_P (dC, dI) vwCl [(h0, .inr (12, fs_175)), (q1, .inl (cI, 4000, (.inl (fun _ => 0)))), (q3, .inl (cI, 6, (.inl (fun _ => 0)))), (q5, .inl (cI, 49152, (.inl (fun _ => 0)))), (q7, .inl (cZ, 768, (.inl (fun _ => 0)))), (q176, .inl (cC, 66, (.inl (g_231))))] H_857 := hP_857
  clear hP_857
  have hD_859 : va_D A [(h0, .inr (12, fs_175)), (q1, .inl (cI, 4000, (.inl (fun _ => 0)))), (q3, .inl (cI, 6, (.inl (fun _ => 0)))), (q5, .inl (cI, 49152, (.inl (fun _ => 0)))), (q7, .inl (cZ, 768, (.inl (fun _ => 0)))), (q176, .inl (cC, 66, (.inl (g_231))))] := hD_857
  clear hD_857
  refine lv_dup hx hb dX12_init_1078 rfl ?_
  refine lv_bipush (v := 55) hx hb dX12_init_1079 (by decide) ?_
  refine lv_bipush (v := 100) hx hb dX12_init_1081 (by decide) ?_
  refine va_cast hx hb hK hP_858 hD_859 hS_857 5 4 rfl rfl (vp_in_nI (n := 55) (N := 66) (by decide) (by decide)) dX12_init_1083 (fun H_860 locs_860 hP_860 hD_860 hS_860 => ?_)
  clear hP_858 hD_859 hS_857
  obtain ⟨g_232, eg_232⟩ : ∃ y, y = upd (g_231) (55 : Int32).toNatClampNeg (vp_nar .char 100) := ⟨_, rfl⟩
  rw [← eg_232] at hP_860 hD_860
  clear eg_232
  have hP_861 : va_P (dC, dI) vwCl [(h0, .inr (12, fs_175)), (q1, .inl (cI, 4000, (.inl (fun _ => 0)))), (q3, .inl (cI, 6, (.inl (fun _ => 0)))), (q5, .inl (cI, 49152, (.inl (fun _ => 0)))), (q7, .inl (cZ, 768, (.inl (fun _ => 0)))), (q176, .inl (cC, 66, (.inl (g_232))))] H_860 := hP_860
  clear hP_860
  have hD_862 : va_D A [(h0, .inr (12, fs_175)), (q1, .inl (cI, 4000, (.inl (fun _ => 0)))), (q3, .inl (cI, 6, (.inl (fun _ => 0)))), (q5, .inl (cI, 49152, (.inl (fun _ => 0)))), (q7, .inl (cZ, 768, (.inl (fun _ => 0)))), (q176, .inl (cC, 66, (.inl (g_232))))] := hD_860
  clear hD_860
  refine lv_dup hx hb dX12_init_1084 rfl ?_
  refine lv_bipush (v := 56) hx hb dX12_init_1085 (by decide) ?_
  refine lv_bipush (v := 101) hx hb dX12_init_1087 (by decide) ?_
  refine va_cast hx hb hK hP_861 hD_862 hS_860 5 4 rfl rfl (vp_in_nI (n := 56) (N := 66) (by decide) (by decide)) dX12_init_1089 (fun H_863 locs_863 hP_863 hD_863 hS_863 => ?_)
  clear hP_861 hD_862 hS_860
  obtain ⟨g_233, eg_233⟩ : ∃ y, y = upd (g_232) (56 : Int32).toNatClampNeg (vp_nar .char 101) := ⟨_, rfl⟩
  rw [← eg_233] at hP_863 hD_863
  clear eg_233
  have hP_864 : va_P (dC, dI) vwCl [(h0, .inr (12, fs_175)), (q1, .inl (cI, 4000, (.inl (fun _ => 0)))), (q3, .inl (cI, 6, (.inl (fun _ => 0)))), (q5, .inl (cI, 49152, (.inl (fun _ => 0)))), (q7, .inl (cZ, 768, (.inl (fun _ => 0)))), (q176, .inl (cC, 66, (.inl (g_233))))] H_863 := hP_863
  clear hP_863
  have hD_865 : va_D A [(h0, .inr (12, fs_175)), (q1, .inl (cI, 4000, (.inl (fun _ => 0)))), (q3, .inl (cI, 6, (.inl (fun _ => 0)))), (q5, .inl (cI, 49152, (.inl (fun _ => 0)))), (q7, .inl (cZ, 768, (.inl (fun _ => 0)))), (q176, .inl (cC, 66, (.inl (g_233))))] := hD_863
  clear hD_863
  refine lv_dup hx hb dX12_init_1090 rfl ?_
  refine lv_bipush (v := 57) hx hb dX12_init_1091 (by decide) ?_
  refine lv_bipush (v := 112) hx hb dX12_init_1093 (by decide) ?_
  refine va_cast hx hb hK hP_864 hD_865 hS_863 5 4 rfl rfl (vp_in_nI (n := 57) (N := 66) (by decide) (by decide)) dX12_init_1095 (fun H_866 locs_866 hP_866 hD_866 hS_866 => ?_)
  clear hP_864 hD_865 hS_863
  obtain ⟨g_234, eg_234⟩ : ∃ y, y = upd (g_233) (57 : Int32).toNatClampNeg (vp_nar .char 112) := ⟨_, rfl⟩
  rw [← eg_234] at hP_866 hD_866
  clear eg_234
  have hP_867 : va_P (dC, dI) vwCl [(h0, .inr (12, fs_175)), (q1, .inl (cI, 4000, (.inl (fun _ => 0)))), (q3, .inl (cI, 6, (.inl (fun _ => 0)))), (q5, .inl (cI, 49152, (.inl (fun _ => 0)))), (q7, .inl (cZ, 768, (.inl (fun _ => 0)))), (q176, .inl (cC, 66, (.inl (g_234))))] H_866 := hP_866
  clear hP_866
  have hD_868 : va_D A [(h0, .inr (12, fs_175)), (q1, .inl (cI, 4000, (.inl (fun _ => 0)))), (q3, .inl (cI, 6, (.inl (fun _ => 0)))), (q5, .inl (cI, 49152, (.inl (fun _ => 0)))), (q7, .inl (cZ, 768, (.inl (fun _ => 0)))), (q176, .inl (cC, 66, (.inl (g_234))))] := hD_866
  clear hD_866
  refine lv_dup hx hb dX12_init_1096 rfl ?_
  refine lv_bipush (v := 58) hx hb dX12_init_1097 (by decide) ?_
  refine lv_bipush (v := 116) hx hb dX12_init_1099 (by decide) ?_
  refine va_cast hx hb hK hP_867 hD_868 hS_866 5 4 rfl rfl (vp_in_nI (n := 58) (N := 66) (by decide) (by decide)) dX12_init_1101 (fun H_869 locs_869 hP_869 hD_869 hS_869 => ?_)
  clear hP_867 hD_868 hS_866
  obtain ⟨g_235, eg_235⟩ : ∃ y, y = upd (g_234) (58 : Int32).toNatClampNeg (vp_nar .char 116) := ⟨_, rfl⟩
  rw [← eg_235] at hP_869 hD_869
  clear eg_235
  have hP_870 : va_P (dC, dI) vwCl [(h0, .inr (12, fs_175)), (q1, .inl (cI, 4000, (.inl (fun _ => 0)))), (q3, .inl (cI, 6, (.inl (fun _ => 0)))), (q5, .inl (cI, 49152, (.inl (fun _ => 0)))), (q7, .inl (cZ, 768, (.inl (fun _ => 0)))), (q176, .inl (cC, 66, (.inl (g_235))))] H_869 := hP_869
  clear hP_869
  have hD_871 : va_D A [(h0, .inr (12, fs_175)), (q1, .inl (cI, 4000, (.inl (fun _ => 0)))), (q3, .inl (cI, 6, (.inl (fun _ => 0)))), (q5, .inl (cI, 49152, (.inl (fun _ => 0)))), (q7, .inl (cZ, 768, (.inl (fun _ => 0)))), (q176, .inl (cC, 66, (.inl (g_235))))] := hD_869
  clear hD_869
  refine lv_dup hx hb dX12_init_1102 rfl ?_
  refine lv_bipush (v := 59) hx hb dX12_init_1103 (by decide) ?_
  refine lv_bipush (v := 104) hx hb dX12_init_1105 (by decide) ?_
  refine va_cast hx hb hK hP_870 hD_871 hS_869 5 4 rfl rfl (vp_in_nI (n := 59) (N := 66) (by decide) (by decide)) dX12_init_1107 (fun H_872 locs_872 hP_872 hD_872 hS_872 => ?_)
  clear hP_870 hD_871 hS_869
  obtain ⟨g_236, eg_236⟩ : ∃ y, y = upd (g_235) (59 : Int32).toNatClampNeg (vp_nar .char 104) := ⟨_, rfl⟩
  rw [← eg_236] at hP_872 hD_872
  clear eg_236
  have hP_873 : va_P (dC, dI) vwCl [(h0, .inr (12, fs_175)), (q1, .inl (cI, 4000, (.inl (fun _ => 0)))), (q3, .inl (cI, 6, (.inl (fun _ => 0)))), (q5, .inl (cI, 49152, (.inl (fun _ => 0)))), (q7, .inl (cZ, 768, (.inl (fun _ => 0)))), (q176, .inl (cC, 66, (.inl (g_236))))] H_872 := hP_872
  clear hP_872
  have hD_874 : va_D A [(h0, .inr (12, fs_175)), (q1, .inl (cI, 4000, (.inl (fun _ => 0)))), (q3, .inl (cI, 6, (.inl (fun _ => 0)))), (q5, .inl (cI, 49152, (.inl (fun _ => 0)))), (q7, .inl (cZ, 768, (.inl (fun _ => 0)))), (q176, .inl (cC, 66, (.inl (g_236))))] := hD_872
  clear hD_872
  refine lv_dup hx hb dX12_init_1108 rfl ?_
  refine lv_bipush (v := 60) hx hb dX12_init_1109 (by decide) ?_
  refine lv_bipush (v := 32) hx hb dX12_init_1111 (by decide) ?_
  refine va_cast hx hb hK hP_873 hD_874 hS_872 5 4 rfl rfl (vp_in_nI (n := 60) (N := 66) (by decide) (by decide)) dX12_init_1113 (fun H_875 locs_875 hP_875 hD_875 hS_875 => ?_)
  clear hP_873 hD_874 hS_872
  obtain ⟨g_237, eg_237⟩ : ∃ y, y = upd (g_236) (60 : Int32).toNatClampNeg (vp_nar .char 32) := ⟨_, rfl⟩
  rw [← eg_237] at hP_875 hD_875
  clear eg_237
  have hP_876 : va_P (dC, dI) vwCl [(h0, .inr (12, fs_175)), (q1, .inl (cI, 4000, (.inl (fun _ => 0)))), (q3, .inl (cI, 6, (.inl (fun _ => 0)))), (q5, .inl (cI, 49152, (.inl (fun _ => 0)))), (q7, .inl (cZ, 768, (.inl (fun _ => 0)))), (q176, .inl (cC, 66, (.inl (g_237))))] H_875 := hP_875
  clear hP_875
  have hD_877 : va_D A [(h0, .inr (12, fs_175)), (q1, .inl (cI, 4000, (.inl (fun _ => 0)))), (q3, .inl (cI, 6, (.inl (fun _ => 0)))), (q5, .inl (cI, 49152, (.inl (fun _ => 0)))), (q7, .inl (cZ, 768, (.inl (fun _ => 0)))), (q176, .inl (cC, 66, (.inl (g_237))))] := hD_875
  clear hD_875
  refine lv_dup hx hb dX12_init_1114 rfl ?_
  refine lv_bipush (v := 61) hx hb dX12_init_1115 (by decide) ?_
  refine lv_bipush (v := 110) hx hb dX12_init_1117 (by decide) ?_
  refine va_cast hx hb hK hP_876 hD_877 hS_875 5 4 rfl rfl (vp_in_nI (n := 61) (N := 66) (by decide) (by decide)) dX12_init_1119 (fun H_878 locs_878 hP_878 hD_878 hS_878 => ?_)
  clear hP_876 hD_877 hS_875
  obtain ⟨g_238, eg_238⟩ : ∃ y, y = upd (g_237) (61 : Int32).toNatClampNeg (vp_nar .char 110) := ⟨_, rfl⟩
  rw [← eg_238] at hP_878 hD_878
  clear eg_238
  have hP_879 : va_P (dC, dI) vwCl [(h0, .inr (12, fs_175)), (q1, .inl (cI, 4000, (.inl (fun _ => 0)))), (q3, .inl (cI, 6, (.inl (fun _ => 0)))), (q5, .inl (cI, 49152, (.inl (fun _ => 0)))), (q7, .inl (cZ, 768, (.inl (fun _ => 0)))), (q176, .inl (cC, 66, (.inl (g_238))))] H_878 := hP_878
  clear hP_878
  have hD_880 : va_D A [(h0, .inr (12, fs_175)), (q1, .inl (cI, 4000, (.inl (fun _ => 0)))), (q3, .inl (cI, 6, (.inl (fun _ => 0)))), (q5, .inl (cI, 49152, (.inl (fun _ => 0)))), (q7, .inl (cZ, 768, (.inl (fun _ => 0)))), (q176, .inl (cC, 66, (.inl (g_238))))] := hD_878
  clear hD_878
  refine lv_dup hx hb dX12_init_1120 rfl ?_
  refine lv_bipush (v := 62) hx hb dX12_init_1121 (by decide) ?_
  refine lv_bipush (v := 97) hx hb dX12_init_1123 (by decide) ?_
  refine va_cast hx hb hK hP_879 hD_880 hS_878 5 4 rfl rfl (vp_in_nI (n := 62) (N := 66) (by decide) (by decide)) dX12_init_1125 (fun H_881 locs_881 hP_881 hD_881 hS_881 => ?_)
  clear hP_879 hD_880 hS_878
  obtain ⟨g_239, eg_239⟩ : ∃ y, y = upd (g_238) (62 : Int32).toNatClampNeg (vp_nar .char 97) := ⟨_, rfl⟩
  rw [← eg_239] at hP_881 hD_881
  clear eg_239
  have hP_882 : va_P (dC, dI) vwCl [(h0, .inr (12, fs_175)), (q1, .inl (cI, 4000, (.inl (fun _ => 0)))), (q3, .inl (cI, 6, (.inl (fun _ => 0)))), (q5, .inl (cI, 49152, (.inl (fun _ => 0)))), (q7, .inl (cZ, 768, (.inl (fun _ => 0)))), (q176, .inl (cC, 66, (.inl (g_239))))] H_881 := hP_881
  clear hP_881
  have hD_883 : va_D A [(h0, .inr (12, fs_175)), (q1, .inl (cI, 4000, (.inl (fun _ => 0)))), (q3, .inl (cI, 6, (.inl (fun _ => 0)))), (q5, .inl (cI, 49152, (.inl (fun _ => 0)))), (q7, .inl (cZ, 768, (.inl (fun _ => 0)))), (q176, .inl (cC, 66, (.inl (g_239))))] := hD_881
  clear hD_881
  refine lv_dup hx hb dX12_init_1126 rfl ?_
  refine lv_bipush (v := 63) hx hb dX12_init_1127 (by decide) ?_
  refine lv_bipush (v := 109) hx hb dX12_init_1129 (by decide) ?_
  refine va_cast hx hb hK hP_882 hD_883 hS_881 5 4 rfl rfl (vp_in_nI (n := 63) (N := 66) (by decide) (by decide)) dX12_init_1131 (fun H_884 locs_884 hP_884 hD_884 hS_884 => ?_)
  clear hP_882 hD_883 hS_881
  obtain ⟨g_240, eg_240⟩ : ∃ y, y = upd (g_239) (63 : Int32).toNatClampNeg (vp_nar .char 109) := ⟨_, rfl⟩
  rw [← eg_240] at hP_884 hD_884
  clear eg_240
  have hP_885 : va_P (dC, dI) vwCl [(h0, .inr (12, fs_175)), (q1, .inl (cI, 4000, (.inl (fun _ => 0)))), (q3, .inl (cI, 6, (.inl (fun _ => 0)))), (q5, .inl (cI, 49152, (.inl (fun _ => 0)))), (q7, .inl (cZ, 768, (.inl (fun _ => 0)))), (q176, .inl (cC, 66, (.inl (g_240))))] H_884 := hP_884
  clear hP_884
  have hD_886 : va_D A [(h0, .inr (12, fs_175)), (q1, .inl (cI, 4000, (.inl (fun _ => 0)))), (q3, .inl (cI, 6, (.inl (fun _ => 0)))), (q5, .inl (cI, 49152, (.inl (fun _ => 0)))), (q7, .inl (cZ, 768, (.inl (fun _ => 0)))), (q176, .inl (cC, 66, (.inl (g_240))))] := hD_884
  clear hD_884
  refine lv_dup hx hb dX12_init_1132 rfl ?_
  refine lv_bipush (v := 64) hx hb dX12_init_1133 (by decide) ?_
  refine lv_bipush (v := 101) hx hb dX12_init_1135 (by decide) ?_
  refine va_cast hx hb hK hP_885 hD_886 hS_884 5 4 rfl rfl (vp_in_nI (n := 64) (N := 66) (by decide) (by decide)) dX12_init_1137 (fun H_887 locs_887 hP_887 hD_887 hS_887 => ?_)
  clear hP_885 hD_886 hS_884
  obtain ⟨g_241, eg_241⟩ : ∃ y, y = upd (g_240) (64 : Int32).toNatClampNeg (vp_nar .char 101) := ⟨_, rfl⟩
  rw [← eg_241] at hP_887 hD_887
  clear eg_241
  have hP_888 : va_P (dC, dI) vwCl [(h0, .inr (12, fs_175)), (q1, .inl (cI, 4000, (.inl (fun _ => 0)))), (q3, .inl (cI, 6, (.inl (fun _ => 0)))), (q5, .inl (cI, 49152, (.inl (fun _ => 0)))), (q7, .inl (cZ, 768, (.inl (fun _ => 0)))), (q176, .inl (cC, 66, (.inl (g_241))))] H_887 := hP_887
  clear hP_887
  have hD_889 : va_D A [(h0, .inr (12, fs_175)), (q1, .inl (cI, 4000, (.inl (fun _ => 0)))), (q3, .inl (cI, 6, (.inl (fun _ => 0)))), (q5, .inl (cI, 49152, (.inl (fun _ => 0)))), (q7, .inl (cZ, 768, (.inl (fun _ => 0)))), (q176, .inl (cC, 66, (.inl (g_241))))] := hD_887
  clear hD_887
  refine lv_dup hx hb dX12_init_1138 rfl ?_
  refine lv_bipush (v := 65) hx hb dX12_init_1139 (by decide) ?_
  refine lv_bipush (v := 32) hx hb dX12_init_1141 (by decide) ?_
  refine va_cast hx hb hK hP_888 hD_889 hS_887 5 4 rfl rfl (vp_in_nI (n := 65) (N := 66) (by decide) (by decide)) dX12_init_1143 (fun H_890 locs_890 hP_890 hD_890 hS_890 => ?_)
  clear hP_888 hD_889 hS_887
  obtain ⟨g_242, eg_242⟩ : ∃ y, y = upd (g_241) (65 : Int32).toNatClampNeg (vp_nar .char 32) := ⟨_, rfl⟩
  rw [← eg_242] at hP_890 hD_890
  clear eg_242
  have hP_891 : va_P (dC, dI) vwCl [(h0, .inr (12, fs_175)), (q1, .inl (cI, 4000, (.inl (fun _ => 0)))), (q3, .inl (cI, 6, (.inl (fun _ => 0)))), (q5, .inl (cI, 49152, (.inl (fun _ => 0)))), (q7, .inl (cZ, 768, (.inl (fun _ => 0)))), (q176, .inl (cC, 66, (.inl (g_242))))] H_890 := hP_890
  clear hP_890
  have hD_892 : va_D A [(h0, .inr (12, fs_175)), (q1, .inl (cI, 4000, (.inl (fun _ => 0)))), (q3, .inl (cI, 6, (.inl (fun _ => 0)))), (q5, .inl (cI, 49152, (.inl (fun _ => 0)))), (q7, .inl (cZ, 768, (.inl (fun _ => 0)))), (q176, .inl (cC, 66, (.inl (g_242))))] := hD_890
  clear hD_890
  refine va_putF (D := (dC, dI)) (ci := 12) (v := .ref q176) (ty := .array (.char)) (C := RX12) (T := TX12) (N := 172) hx hb hts inq_X12_init_c12 tyX12 tyX12_ok nmX12 hown hK hP_891 hD_892 hS_890 0 rfl rfl 132 (by decide) (hts (.fieldLink RX12 281 "DiskEvidenceModel" "fieldWords" "[C") (List.mem_of_getElem? (i := 100) rfl)) (fun _ h9 => h9) rfl hin rfl (by decide +kernel) rfl rfl (by rw [hfl_175]; decide) dX12_init_1144 (fun H_893 locs_893 hP_893 hD_893 hS_893 => ?_)
  clear hP_891 hD_892 hS_890
  have hP_894 : va_P (dC, dI) vwCl [(h0, .inr (12, (fs_175.set 132 (.ref q176)))), (q1, .inl (cI, 4000, (.inl (fun _ => 0)))), (q3, .inl (cI, 6, (.inl (fun _ => 0)))), (q5, .inl (cI, 49152, (.inl (fun _ => 0)))), (q7, .inl (cZ, 768, (.inl (fun _ => 0)))), (q176, .inl (cC, 66, (.inl (g_242))))] H_893 := hP_893
  clear hP_893
  have hD_895 : va_D A [(h0, .inr (12, (fs_175.set 132 (.ref q176)))), (q1, .inl (cI, 4000, (.inl (fun _ => 0)))), (q3, .inl (cI, 6, (.inl (fun _ => 0)))), (q5, .inl (cI, 49152, (.inl (fun _ => 0)))), (q7, .inl (cZ, 768, (.inl (fun _ => 0)))), (q176, .inl (cC, 66, (.inl (g_242))))] := hD_893
  clear hD_893
  obtain ⟨fs_243, efs_243⟩ : ∃ y, y = (fs_175.set 132 (.ref q176)) := ⟨_, rfl⟩
  rw [← efs_243] at hP_894 hD_895
  have hfl_243 : fs_243.length = 172 := by rw [efs_243, List.length_set]; exact hfl_175
  clear hfl_175
  have hP_896 := hP_894.sub (ws' := [(h0, .inr (12, fs_243)), (q1, .inl (cI, 4000, (.inl (fun _ => 0)))), (q3, .inl (cI, 6, (.inl (fun _ => 0)))), (q5, .inl (cI, 49152, (.inl (fun _ => 0)))), (q7, .inl (cZ, 768, (.inl (fun _ => 0))))]) [0, 1, 2, 3, 4] rfl
  clear hP_894
  have hD_897 := hD_895.sub (ws' := [(h0, .inr (12, fs_243)), (q1, .inl (cI, 4000, (.inl (fun _ => 0)))), (q3, .inl (cI, 6, (.inl (fun _ => 0)))), (q5, .inl (cI, 49152, (.inl (fun _ => 0)))), (q7, .inl (cZ, 768, (.inl (fun _ => 0))))]) [0, 1, 2, 3, 4] (by decide) rfl
  clear hD_895
  refine lv_aload_n hx hb dX12_init_1147 rfl (lv_at hl 0 rfl) ?_
  refine lv_bipush (v := 11) hx hb dX12_init_1148 (by decide) ?_
  refine nw_arr (atype := .int) (N' := 11) (a0 := (11, (.inl (fun _ => 0)))) hx hb (hts (.arrayClass .int) (List.mem_of_getElem? (i := 4) rfl)) rfl hK 0 (cI := cI) rfl hP_896 hD_897 hS_893 hA (fun _ => rfl) (by decide) (by decide) (by decide) (Nat.le_of_ble_eq_true rfl) (Nat.le_of_ble_eq_true rfl) dX12_init_1150 (fun q244 H_898 hP_898 hD_898 hS_898 => ?_)
  clear hP_896 hD_897 hS_893
  have hP_899 : va_P (dC, dI) vwCl [(h0, .inr (12, fs_243)), (q1, .inl (cI, 4000, (.inl (fun _ => 0)))), (q3, .inl (cI, 6, (.inl (fun _ => 0)))), (q5, .inl (cI, 49152, (.inl (fun _ => 0)))), (q7, .inl (cZ, 768, (.inl (fun _ => 0)))), (q244, .inl (cI, 11, (.inl (fun _ => 0))))] H_898 := hP_898
  clear hP_898
  have hD_900 : va_D A [(h0, .inr (12, fs_243)), (q1, .inl (cI, 4000, (.inl (fun _ => 0)))), (q3, .inl (cI, 6, (.inl (fun _ => 0)))), (q5, .inl (cI, 49152, (.inl (fun _ => 0)))), (q7, .inl (cZ, 768, (.inl (fun _ => 0)))), (q244, .inl (cI, 11, (.inl (fun _ => 0))))] := hD_898
  clear hD_898
  refine W.widen (k := 89) (n := 698355) (by decide) (by decide) ?_
  refine lv_dup hx hb dX12_init_1152 rfl ?_
  refine lv_iconst (v := 0) hx hb dX12_init_1153 (by decide) ?_
  refine lv_iconst (v := 0) hx hb dX12_init_1154 (by decide) ?_
  refine va_iast hx hb hK hP_899 hD_900 hS_898 5 0 rfl rfl (vp_in_nI (n := 0) (N := 11) (by decide) (by decide)) dX12_init_1155 (fun H_901 locs_901 hP_901 hD_901 hS_901 => ?_)
  clear hP_899 hD_900 hS_898
  obtain ⟨g_245, eg_245⟩ : ∃ y, y = upd (fun _ => 0) (0 : Int32).toNatClampNeg 0 := ⟨_, rfl⟩
  rw [← eg_245] at hP_901 hD_901
  have hP_902 : va_P (dC, dI) vwCl [(h0, .inr (12, fs_243)), (q1, .inl (cI, 4000, (.inl (fun _ => 0)))), (q3, .inl (cI, 6, (.inl (fun _ => 0)))), (q5, .inl (cI, 49152, (.inl (fun _ => 0)))), (q7, .inl (cZ, 768, (.inl (fun _ => 0)))), (q244, .inl (cI, 11, (.inl (g_245))))] H_901 := hP_901
  clear hP_901
  have hD_903 : va_D A [(h0, .inr (12, fs_243)), (q1, .inl (cI, 4000, (.inl (fun _ => 0)))), (q3, .inl (cI, 6, (.inl (fun _ => 0)))), (q5, .inl (cI, 49152, (.inl (fun _ => 0)))), (q7, .inl (cZ, 768, (.inl (fun _ => 0)))), (q244, .inl (cI, 11, (.inl (g_245))))] := hD_901
  clear hD_901
  refine lv_dup hx hb dX12_init_1156 rfl ?_
  refine lv_iconst (v := 1) hx hb dX12_init_1157 (by decide) ?_
  refine lv_iconst (v := 5) hx hb dX12_init_1158 (by decide) ?_
  refine va_iast hx hb hK hP_902 hD_903 hS_901 5 0 rfl rfl (vp_in_nI (n := 1) (N := 11) (by decide) (by decide)) dX12_init_1159 (fun H_904 locs_904 hP_904 hD_904 hS_904 => ?_)
  clear hP_902 hD_903 hS_901
  obtain ⟨g_246, eg_246⟩ : ∃ y, y = upd (g_245) (1 : Int32).toNatClampNeg 5 := ⟨_, rfl⟩
  rw [← eg_246] at hP_904 hD_904
  have hP_905 : va_P (dC, dI) vwCl [(h0, .inr (12, fs_243)), (q1, .inl (cI, 4000, (.inl (fun _ => 0)))), (q3, .inl (cI, 6, (.inl (fun _ => 0)))), (q5, .inl (cI, 49152, (.inl (fun _ => 0)))), (q7, .inl (cZ, 768, (.inl (fun _ => 0)))), (q244, .inl (cI, 11, (.inl (g_246))))] H_904 := hP_904
  clear hP_904
  have hD_906 : va_D A [(h0, .inr (12, fs_243)), (q1, .inl (cI, 4000, (.inl (fun _ => 0)))), (q3, .inl (cI, 6, (.inl (fun _ => 0)))), (q5, .inl (cI, 49152, (.inl (fun _ => 0)))), (q7, .inl (cZ, 768, (.inl (fun _ => 0)))), (q244, .inl (cI, 11, (.inl (g_246))))] := hD_904
  clear hD_904
  refine lv_dup hx hb dX12_init_1160 rfl ?_
  refine lv_iconst (v := 2) hx hb dX12_init_1161 (by decide) ?_
  refine lv_bipush (v := 10) hx hb dX12_init_1162 (by decide) ?_
  refine va_iast hx hb hK hP_905 hD_906 hS_904 5 0 rfl rfl (vp_in_nI (n := 2) (N := 11) (by decide) (by decide)) dX12_init_1164 (fun H_907 locs_907 hP_907 hD_907 hS_907 => ?_)
  clear hP_905 hD_906 hS_904
  obtain ⟨g_247, eg_247⟩ : ∃ y, y = upd (g_246) (2 : Int32).toNatClampNeg 10 := ⟨_, rfl⟩
  rw [← eg_247] at hP_907 hD_907
  have hP_908 : va_P (dC, dI) vwCl [(h0, .inr (12, fs_243)), (q1, .inl (cI, 4000, (.inl (fun _ => 0)))), (q3, .inl (cI, 6, (.inl (fun _ => 0)))), (q5, .inl (cI, 49152, (.inl (fun _ => 0)))), (q7, .inl (cZ, 768, (.inl (fun _ => 0)))), (q244, .inl (cI, 11, (.inl (g_247))))] H_907 := hP_907
  clear hP_907
  have hD_909 : va_D A [(h0, .inr (12, fs_243)), (q1, .inl (cI, 4000, (.inl (fun _ => 0)))), (q3, .inl (cI, 6, (.inl (fun _ => 0)))), (q5, .inl (cI, 49152, (.inl (fun _ => 0)))), (q7, .inl (cZ, 768, (.inl (fun _ => 0)))), (q244, .inl (cI, 11, (.inl (g_247))))] := hD_907
  clear hD_907
  refine lv_dup hx hb dX12_init_1165 rfl ?_
  refine lv_iconst (v := 3) hx hb dX12_init_1166 (by decide) ?_
  refine lv_bipush (v := 15) hx hb dX12_init_1167 (by decide) ?_
  refine va_iast hx hb hK hP_908 hD_909 hS_907 5 0 rfl rfl (vp_in_nI (n := 3) (N := 11) (by decide) (by decide)) dX12_init_1169 (fun H_910 locs_910 hP_910 hD_910 hS_910 => ?_)
  clear hP_908 hD_909 hS_907
  obtain ⟨g_248, eg_248⟩ : ∃ y, y = upd (g_247) (3 : Int32).toNatClampNeg 15 := ⟨_, rfl⟩
  rw [← eg_248] at hP_910 hD_910
  have hP_911 : va_P (dC, dI) vwCl [(h0, .inr (12, fs_243)), (q1, .inl (cI, 4000, (.inl (fun _ => 0)))), (q3, .inl (cI, 6, (.inl (fun _ => 0)))), (q5, .inl (cI, 49152, (.inl (fun _ => 0)))), (q7, .inl (cZ, 768, (.inl (fun _ => 0)))), (q244, .inl (cI, 11, (.inl (g_248))))] H_910 := hP_910
  clear hP_910
  have hD_912 : va_D A [(h0, .inr (12, fs_243)), (q1, .inl (cI, 4000, (.inl (fun _ => 0)))), (q3, .inl (cI, 6, (.inl (fun _ => 0)))), (q5, .inl (cI, 49152, (.inl (fun _ => 0)))), (q7, .inl (cZ, 768, (.inl (fun _ => 0)))), (q244, .inl (cI, 11, (.inl (g_248))))] := hD_910
  clear hD_910
  refine lv_dup hx hb dX12_init_1170 rfl ?_
  refine lv_iconst (v := 4) hx hb dX12_init_1171 (by decide) ?_
  refine lv_bipush (v := 23) hx hb dX12_init_1172 (by decide) ?_
  refine va_iast hx hb hK hP_911 hD_912 hS_910 5 0 rfl rfl (vp_in_nI (n := 4) (N := 11) (by decide) (by decide)) dX12_init_1174 (fun H_913 locs_913 hP_913 hD_913 hS_913 => ?_)
  clear hP_911 hD_912 hS_910
  obtain ⟨g_249, eg_249⟩ : ∃ y, y = upd (g_248) (4 : Int32).toNatClampNeg 23 := ⟨_, rfl⟩
  rw [← eg_249] at hP_913 hD_913
  have hP_914 : va_P (dC, dI) vwCl [(h0, .inr (12, fs_243)), (q1, .inl (cI, 4000, (.inl (fun _ => 0)))), (q3, .inl (cI, 6, (.inl (fun _ => 0)))), (q5, .inl (cI, 49152, (.inl (fun _ => 0)))), (q7, .inl (cZ, 768, (.inl (fun _ => 0)))), (q244, .inl (cI, 11, (.inl (g_249))))] H_913 := hP_913
  clear hP_913
  have hD_915 : va_D A [(h0, .inr (12, fs_243)), (q1, .inl (cI, 4000, (.inl (fun _ => 0)))), (q3, .inl (cI, 6, (.inl (fun _ => 0)))), (q5, .inl (cI, 49152, (.inl (fun _ => 0)))), (q7, .inl (cZ, 768, (.inl (fun _ => 0)))), (q244, .inl (cI, 11, (.inl (g_249))))] := hD_913
  clear hD_913
  refine lv_dup hx hb dX12_init_1175 rfl ?_
  refine lv_iconst (v := 5) hx hb dX12_init_1176 (by decide) ?_
  refine lv_bipush (v := 30) hx hb dX12_init_1177 (by decide) ?_
  refine va_iast hx hb hK hP_914 hD_915 hS_913 5 0 rfl rfl (vp_in_nI (n := 5) (N := 11) (by decide) (by decide)) dX12_init_1179 (fun H_916 locs_916 hP_916 hD_916 hS_916 => ?_)
  clear hP_914 hD_915 hS_913
  obtain ⟨g_250, eg_250⟩ : ∃ y, y = upd (g_249) (5 : Int32).toNatClampNeg 30 := ⟨_, rfl⟩
  rw [← eg_250] at hP_916 hD_916
  have hP_917 : va_P (dC, dI) vwCl [(h0, .inr (12, fs_243)), (q1, .inl (cI, 4000, (.inl (fun _ => 0)))), (q3, .inl (cI, 6, (.inl (fun _ => 0)))), (q5, .inl (cI, 49152, (.inl (fun _ => 0)))), (q7, .inl (cZ, 768, (.inl (fun _ => 0)))), (q244, .inl (cI, 11, (.inl (g_250))))] H_916 := hP_916
  clear hP_916
  have hD_918 : va_D A [(h0, .inr (12, fs_243)), (q1, .inl (cI, 4000, (.inl (fun _ => 0)))), (q3, .inl (cI, 6, (.inl (fun _ => 0)))), (q5, .inl (cI, 49152, (.inl (fun _ => 0)))), (q7, .inl (cZ, 768, (.inl (fun _ => 0)))), (q244, .inl (cI, 11, (.inl (g_250))))] := hD_916
  clear hD_916
  refine lv_dup hx hb dX12_init_1180 rfl ?_
  refine lv_bipush (v := 6) hx hb dX12_init_1181 (by decide) ?_
  refine lv_bipush (v := 36) hx hb dX12_init_1183 (by decide) ?_
  refine va_iast hx hb hK hP_917 hD_918 hS_916 5 0 rfl rfl (vp_in_nI (n := 6) (N := 11) (by decide) (by decide)) dX12_init_1185 (fun H_919 locs_919 hP_919 hD_919 hS_919 => ?_)
  clear hP_917 hD_918 hS_916
  obtain ⟨g_251, eg_251⟩ : ∃ y, y = upd (g_250) (6 : Int32).toNatClampNeg 36 := ⟨_, rfl⟩
  rw [← eg_251] at hP_919 hD_919
  have hP_920 : va_P (dC, dI) vwCl [(h0, .inr (12, fs_243)), (q1, .inl (cI, 4000, (.inl (fun _ => 0)))), (q3, .inl (cI, 6, (.inl (fun _ => 0)))), (q5, .inl (cI, 49152, (.inl (fun _ => 0)))), (q7, .inl (cZ, 768, (.inl (fun _ => 0)))), (q244, .inl (cI, 11, (.inl (g_251))))] H_919 := hP_919
  clear hP_919
  have hD_921 : va_D A [(h0, .inr (12, fs_243)), (q1, .inl (cI, 4000, (.inl (fun _ => 0)))), (q3, .inl (cI, 6, (.inl (fun _ => 0)))), (q5, .inl (cI, 49152, (.inl (fun _ => 0)))), (q7, .inl (cZ, 768, (.inl (fun _ => 0)))), (q244, .inl (cI, 11, (.inl (g_251))))] := hD_919
  clear hD_919
  refine lv_dup hx hb dX12_init_1186 rfl ?_
  refine lv_bipush (v := 7) hx hb dX12_init_1187 (by decide) ?_
  refine lv_bipush (v := 42) hx hb dX12_init_1189 (by decide) ?_
  refine va_iast hx hb hK hP_920 hD_921 hS_919 5 0 rfl rfl (vp_in_nI (n := 7) (N := 11) (by decide) (by decide)) dX12_init_1191 (fun H_922 locs_922 hP_922 hD_922 hS_922 => ?_)
  clear hP_920 hD_921 hS_919
  obtain ⟨g_252, eg_252⟩ : ∃ y, y = upd (g_251) (7 : Int32).toNatClampNeg 42 := ⟨_, rfl⟩
  rw [← eg_252] at hP_922 hD_922
  have hP_923 : va_P (dC, dI) vwCl [(h0, .inr (12, fs_243)), (q1, .inl (cI, 4000, (.inl (fun _ => 0)))), (q3, .inl (cI, 6, (.inl (fun _ => 0)))), (q5, .inl (cI, 49152, (.inl (fun _ => 0)))), (q7, .inl (cZ, 768, (.inl (fun _ => 0)))), (q244, .inl (cI, 11, (.inl (g_252))))] H_922 := hP_922
  clear hP_922
  have hD_924 : va_D A [(h0, .inr (12, fs_243)), (q1, .inl (cI, 4000, (.inl (fun _ => 0)))), (q3, .inl (cI, 6, (.inl (fun _ => 0)))), (q5, .inl (cI, 49152, (.inl (fun _ => 0)))), (q7, .inl (cZ, 768, (.inl (fun _ => 0)))), (q244, .inl (cI, 11, (.inl (g_252))))] := hD_922
  clear hD_922
  refine lv_dup hx hb dX12_init_1192 rfl ?_
  refine lv_bipush (v := 8) hx hb dX12_init_1193 (by decide) ?_
  refine lv_bipush (v := 48) hx hb dX12_init_1195 (by decide) ?_
  refine va_iast hx hb hK hP_923 hD_924 hS_922 5 0 rfl rfl (vp_in_nI (n := 8) (N := 11) (by decide) (by decide)) dX12_init_1197 (fun H_925 locs_925 hP_925 hD_925 hS_925 => ?_)
  clear hP_923 hD_924 hS_922
  obtain ⟨g_253, eg_253⟩ : ∃ y, y = upd (g_252) (8 : Int32).toNatClampNeg 48 := ⟨_, rfl⟩
  rw [← eg_253] at hP_925 hD_925
  have hP_926 : va_P (dC, dI) vwCl [(h0, .inr (12, fs_243)), (q1, .inl (cI, 4000, (.inl (fun _ => 0)))), (q3, .inl (cI, 6, (.inl (fun _ => 0)))), (q5, .inl (cI, 49152, (.inl (fun _ => 0)))), (q7, .inl (cZ, 768, (.inl (fun _ => 0)))), (q244, .inl (cI, 11, (.inl (g_253))))] H_925 := hP_925
  clear hP_925
  have hD_927 : va_D A [(h0, .inr (12, fs_243)), (q1, .inl (cI, 4000, (.inl (fun _ => 0)))), (q3, .inl (cI, 6, (.inl (fun _ => 0)))), (q5, .inl (cI, 49152, (.inl (fun _ => 0)))), (q7, .inl (cZ, 768, (.inl (fun _ => 0)))), (q244, .inl (cI, 11, (.inl (g_253))))] := hD_925
  clear hD_925
  refine lv_dup hx hb dX12_init_1198 rfl ?_
  refine lv_bipush (v := 9) hx hb dX12_init_1199 (by decide) ?_
  refine lv_bipush (v := 55) hx hb dX12_init_1201 (by decide) ?_
  refine va_iast hx hb hK hP_926 hD_927 hS_925 5 0 rfl rfl (vp_in_nI (n := 9) (N := 11) (by decide) (by decide)) dX12_init_1203 (fun H_928 locs_928 hP_928 hD_928 hS_928 => ?_)
  clear hP_926 hD_927 hS_925
  obtain ⟨g_254, eg_254⟩ : ∃ y, y = upd (g_253) (9 : Int32).toNatClampNeg 55 := ⟨_, rfl⟩
  rw [← eg_254] at hP_928 hD_928
  have hP_929 : va_P (dC, dI) vwCl [(h0, .inr (12, fs_243)), (q1, .inl (cI, 4000, (.inl (fun _ => 0)))), (q3, .inl (cI, 6, (.inl (fun _ => 0)))), (q5, .inl (cI, 49152, (.inl (fun _ => 0)))), (q7, .inl (cZ, 768, (.inl (fun _ => 0)))), (q244, .inl (cI, 11, (.inl (g_254))))] H_928 := hP_928
  clear hP_928
  have hD_930 : va_D A [(h0, .inr (12, fs_243)), (q1, .inl (cI, 4000, (.inl (fun _ => 0)))), (q3, .inl (cI, 6, (.inl (fun _ => 0)))), (q5, .inl (cI, 49152, (.inl (fun _ => 0)))), (q7, .inl (cZ, 768, (.inl (fun _ => 0)))), (q244, .inl (cI, 11, (.inl (g_254))))] := hD_928
  clear hD_928
  refine lv_dup hx hb dX12_init_1204 rfl ?_
  refine lv_bipush (v := 10) hx hb dX12_init_1205 (by decide) ?_
  refine lv_bipush (v := 61) hx hb dX12_init_1207 (by decide) ?_
  refine va_iast hx hb hK hP_929 hD_930 hS_928 5 0 rfl rfl (vp_in_nI (n := 10) (N := 11) (by decide) (by decide)) dX12_init_1209 (fun H_931 locs_931 hP_931 hD_931 hS_931 => ?_)
  clear hP_929 hD_930 hS_928
  obtain ⟨g_255, eg_255⟩ : ∃ y, y = upd (g_254) (10 : Int32).toNatClampNeg 61 := ⟨_, rfl⟩
  rw [← eg_255] at hP_931 hD_931
  have hP_932 : va_P (dC, dI) vwCl [(h0, .inr (12, fs_243)), (q1, .inl (cI, 4000, (.inl (fun _ => 0)))), (q3, .inl (cI, 6, (.inl (fun _ => 0)))), (q5, .inl (cI, 49152, (.inl (fun _ => 0)))), (q7, .inl (cZ, 768, (.inl (fun _ => 0)))), (q244, .inl (cI, 11, (.inl (g_255))))] H_931 := hP_931
  clear hP_931
  have hD_933 : va_D A [(h0, .inr (12, fs_243)), (q1, .inl (cI, 4000, (.inl (fun _ => 0)))), (q3, .inl (cI, 6, (.inl (fun _ => 0)))), (q5, .inl (cI, 49152, (.inl (fun _ => 0)))), (q7, .inl (cZ, 768, (.inl (fun _ => 0)))), (q244, .inl (cI, 11, (.inl (g_255))))] := hD_931
  clear hD_931
  refine va_putF (D := (dC, dI)) (ci := 12) (v := .ref q244) (ty := .array (.int)) (C := RX12) (T := TX12) (N := 172) hx hb hts inq_X12_init_c12 tyX12 tyX12_ok nmX12 hown hK hP_932 hD_933 hS_931 0 rfl rfl 133 (by decide) (hts (.fieldLink RX12 285 "DiskEvidenceModel" "wordFrom" "[I") (List.mem_of_getElem? (i := 101) rfl)) (fun _ h9 => h9) rfl hin rfl (by decide +kernel) rfl rfl (by rw [hfl_243]; decide) dX12_init_1210 (fun H_934 locs_934 hP_934 hD_934 hS_934 => ?_)
  clear hP_932 hD_933 hS_931
  have hP_935 : va_P (dC, dI) vwCl [(h0, .inr (12, (fs_243.set 133 (.ref q244)))), (q1, .inl (cI, 4000, (.inl (fun _ => 0)))), (q3, .inl (cI, 6, (.inl (fun _ => 0)))), (q5, .inl (cI, 49152, (.inl (fun _ => 0)))), (q7, .inl (cZ, 768, (.inl (fun _ => 0)))), (q244, .inl (cI, 11, (.inl (g_255))))] H_934 := hP_934
  clear hP_934
  have hD_936 : va_D A [(h0, .inr (12, (fs_243.set 133 (.ref q244)))), (q1, .inl (cI, 4000, (.inl (fun _ => 0)))), (q3, .inl (cI, 6, (.inl (fun _ => 0)))), (q5, .inl (cI, 49152, (.inl (fun _ => 0)))), (q7, .inl (cZ, 768, (.inl (fun _ => 0)))), (q244, .inl (cI, 11, (.inl (g_255))))] := hD_934
  clear hD_934
  obtain ⟨fs_256, efs_256⟩ : ∃ y, y = (fs_243.set 133 (.ref q244)) := ⟨_, rfl⟩
  rw [← efs_256] at hP_935 hD_936
  have hfl_256 : fs_256.length = 172 := by rw [efs_256, List.length_set]; exact hfl_243
  clear hfl_243
  have hP_937 := hP_935.sub (ws' := [(h0, .inr (12, fs_256)), (q1, .inl (cI, 4000, (.inl (fun _ => 0)))), (q3, .inl (cI, 6, (.inl (fun _ => 0)))), (q5, .inl (cI, 49152, (.inl (fun _ => 0)))), (q7, .inl (cZ, 768, (.inl (fun _ => 0))))]) [0, 1, 2, 3, 4] rfl
  clear hP_935
  have hD_938 := hD_936.sub (ws' := [(h0, .inr (12, fs_256)), (q1, .inl (cI, 4000, (.inl (fun _ => 0)))), (q3, .inl (cI, 6, (.inl (fun _ => 0)))), (q5, .inl (cI, 49152, (.inl (fun _ => 0)))), (q7, .inl (cZ, 768, (.inl (fun _ => 0))))]) [0, 1, 2, 3, 4] (by decide) rfl
  clear hD_936
  refine lv_aload_n hx hb dX12_init_1213 rfl (lv_at hl 0 rfl) ?_
  refine lv_iconst (v := 4) hx hb dX12_init_1214 (by decide) ?_
  refine nw_arr (atype := .char) (N' := 4) (a0 := (4, (.inl (fun _ => 0)))) hx hb (hts (.arrayClass .char) (List.mem_of_getElem? (i := 99) rfl)) rfl hK 4 (cI := cC) rfl hP_937 hD_938 hS_934 hA (fun _ => rfl) (by decide) (by decide) (by decide) (Nat.le_of_ble_eq_true rfl) (Nat.le_of_ble_eq_true rfl) dX12_init_1215 (fun q257 H_939 hP_939 hD_939 hS_939 => ?_)
  clear hP_937 hD_938 hS_934
  have hP_940 : va_P (dC, dI) vwCl [(h0, .inr (12, fs_256)), (q1, .inl (cI, 4000, (.inl (fun _ => 0)))), (q3, .inl (cI, 6, (.inl (fun _ => 0)))), (q5, .inl (cI, 49152, (.inl (fun _ => 0)))), (q7, .inl (cZ, 768, (.inl (fun _ => 0)))), (q257, .inl (cC, 4, (.inl (fun _ => 0))))] H_939 := hP_939
  clear hP_939
  have hD_941 : va_D A [(h0, .inr (12, fs_256)), (q1, .inl (cI, 4000, (.inl (fun _ => 0)))), (q3, .inl (cI, 6, (.inl (fun _ => 0)))), (q5, .inl (cI, 49152, (.inl (fun _ => 0)))), (q7, .inl (cZ, 768, (.inl (fun _ => 0)))), (q257, .inl (cC, 4, (.inl (fun _ => 0))))] := hD_939
  clear hD_939
  refine W.widen (k := 90) (n := 698359) (by decide) (by decide) ?_
  refine lv_dup hx hb dX12_init_1217 rfl ?_
  refine lv_iconst (v := 0) hx hb dX12_init_1218 (by decide) ?_
  refine lv_bipush (v := 115) hx hb dX12_init_1219 (by decide) ?_
  refine va_cast hx hb hK hP_940 hD_941 hS_939 5 4 rfl rfl (vp_in_nI (n := 0) (N := 4) (by decide) (by decide)) dX12_init_1221 (fun H_942 locs_942 hP_942 hD_942 hS_942 => ?_)
  clear hP_940 hD_941 hS_939
  obtain ⟨g_258, eg_258⟩ : ∃ y, y = upd (fun _ => 0) (0 : Int32).toNatClampNeg (vp_nar .char 115) := ⟨_, rfl⟩
  rw [← eg_258] at hP_942 hD_942
  clear eg_258
  have hP_943 : va_P (dC, dI) vwCl [(h0, .inr (12, fs_256)), (q1, .inl (cI, 4000, (.inl (fun _ => 0)))), (q3, .inl (cI, 6, (.inl (fun _ => 0)))), (q5, .inl (cI, 49152, (.inl (fun _ => 0)))), (q7, .inl (cZ, 768, (.inl (fun _ => 0)))), (q257, .inl (cC, 4, (.inl (g_258))))] H_942 := hP_942
  clear hP_942
  have hD_944 : va_D A [(h0, .inr (12, fs_256)), (q1, .inl (cI, 4000, (.inl (fun _ => 0)))), (q3, .inl (cI, 6, (.inl (fun _ => 0)))), (q5, .inl (cI, 49152, (.inl (fun _ => 0)))), (q7, .inl (cZ, 768, (.inl (fun _ => 0)))), (q257, .inl (cC, 4, (.inl (g_258))))] := hD_942
  clear hD_942
  refine lv_dup hx hb dX12_init_1222 rfl ?_
  refine lv_iconst (v := 1) hx hb dX12_init_1223 (by decide) ?_
  refine lv_bipush (v := 111) hx hb dX12_init_1224 (by decide) ?_
  refine va_cast hx hb hK hP_943 hD_944 hS_942 5 4 rfl rfl (vp_in_nI (n := 1) (N := 4) (by decide) (by decide)) dX12_init_1226 (fun H_945 locs_945 hP_945 hD_945 hS_945 => ?_)
  clear hP_943 hD_944 hS_942
  obtain ⟨g_259, eg_259⟩ : ∃ y, y = upd (g_258) (1 : Int32).toNatClampNeg (vp_nar .char 111) := ⟨_, rfl⟩
  rw [← eg_259] at hP_945 hD_945
  clear eg_259
  have hP_946 : va_P (dC, dI) vwCl [(h0, .inr (12, fs_256)), (q1, .inl (cI, 4000, (.inl (fun _ => 0)))), (q3, .inl (cI, 6, (.inl (fun _ => 0)))), (q5, .inl (cI, 49152, (.inl (fun _ => 0)))), (q7, .inl (cZ, 768, (.inl (fun _ => 0)))), (q257, .inl (cC, 4, (.inl (g_259))))] H_945 := hP_945
  clear hP_945
  have hD_947 : va_D A [(h0, .inr (12, fs_256)), (q1, .inl (cI, 4000, (.inl (fun _ => 0)))), (q3, .inl (cI, 6, (.inl (fun _ => 0)))), (q5, .inl (cI, 49152, (.inl (fun _ => 0)))), (q7, .inl (cZ, 768, (.inl (fun _ => 0)))), (q257, .inl (cC, 4, (.inl (g_259))))] := hD_945
  clear hD_945
  refine lv_dup hx hb dX12_init_1227 rfl ?_
  refine lv_iconst (v := 2) hx hb dX12_init_1228 (by decide) ?_
  refine lv_bipush (v := 114) hx hb dX12_init_1229 (by decide) ?_
  refine va_cast hx hb hK hP_946 hD_947 hS_945 5 4 rfl rfl (vp_in_nI (n := 2) (N := 4) (by decide) (by decide)) dX12_init_1231 (fun H_948 locs_948 hP_948 hD_948 hS_948 => ?_)
  clear hP_946 hD_947 hS_945
  obtain ⟨g_260, eg_260⟩ : ∃ y, y = upd (g_259) (2 : Int32).toNatClampNeg (vp_nar .char 114) := ⟨_, rfl⟩
  rw [← eg_260] at hP_948 hD_948
  clear eg_260
  have hP_949 : va_P (dC, dI) vwCl [(h0, .inr (12, fs_256)), (q1, .inl (cI, 4000, (.inl (fun _ => 0)))), (q3, .inl (cI, 6, (.inl (fun _ => 0)))), (q5, .inl (cI, 49152, (.inl (fun _ => 0)))), (q7, .inl (cZ, 768, (.inl (fun _ => 0)))), (q257, .inl (cC, 4, (.inl (g_260))))] H_948 := hP_948
  clear hP_948
  have hD_950 : va_D A [(h0, .inr (12, fs_256)), (q1, .inl (cI, 4000, (.inl (fun _ => 0)))), (q3, .inl (cI, 6, (.inl (fun _ => 0)))), (q5, .inl (cI, 49152, (.inl (fun _ => 0)))), (q7, .inl (cZ, 768, (.inl (fun _ => 0)))), (q257, .inl (cC, 4, (.inl (g_260))))] := hD_948
  clear hD_948
  refine lv_dup hx hb dX12_init_1232 rfl ?_
  refine lv_iconst (v := 3) hx hb dX12_init_1233 (by decide) ?_
  refine lv_bipush (v := 116) hx hb dX12_init_1234 (by decide) ?_
  refine va_cast hx hb hK hP_949 hD_950 hS_948 5 4 rfl rfl (vp_in_nI (n := 3) (N := 4) (by decide) (by decide)) dX12_init_1236 (fun H_951 locs_951 hP_951 hD_951 hS_951 => ?_)
  clear hP_949 hD_950 hS_948
  obtain ⟨g_261, eg_261⟩ : ∃ y, y = upd (g_260) (3 : Int32).toNatClampNeg (vp_nar .char 116) := ⟨_, rfl⟩
  rw [← eg_261] at hP_951 hD_951
  clear eg_261
  have hP_952 : va_P (dC, dI) vwCl [(h0, .inr (12, fs_256)), (q1, .inl (cI, 4000, (.inl (fun _ => 0)))), (q3, .inl (cI, 6, (.inl (fun _ => 0)))), (q5, .inl (cI, 49152, (.inl (fun _ => 0)))), (q7, .inl (cZ, 768, (.inl (fun _ => 0)))), (q257, .inl (cC, 4, (.inl (g_261))))] H_951 := hP_951
  clear hP_951
  have hD_953 : va_D A [(h0, .inr (12, fs_256)), (q1, .inl (cI, 4000, (.inl (fun _ => 0)))), (q3, .inl (cI, 6, (.inl (fun _ => 0)))), (q5, .inl (cI, 49152, (.inl (fun _ => 0)))), (q7, .inl (cZ, 768, (.inl (fun _ => 0)))), (q257, .inl (cC, 4, (.inl (g_261))))] := hD_951
  clear hD_951
  refine va_putF (D := (dC, dI)) (ci := 12) (v := .ref q257) (ty := .array (.char)) (C := RX12) (T := TX12) (N := 172) hx hb hts inq_X12_init_c12 tyX12 tyX12_ok nmX12 hown hK hP_952 hD_953 hS_951 0 rfl rfl 134 (by decide) (hts (.fieldLink RX12 288 "DiskEvidenceModel" "sortWord" "[C") (List.mem_of_getElem? (i := 102) rfl)) (fun _ h9 => h9) rfl hin rfl (by decide +kernel) rfl rfl (by rw [hfl_256]; decide) dX12_init_1237 (fun H_954 locs_954 hP_954 hD_954 hS_954 => ?_)
  clear hP_952 hD_953 hS_951
  have hP_955 : va_P (dC, dI) vwCl [(h0, .inr (12, (fs_256.set 134 (.ref q257)))), (q1, .inl (cI, 4000, (.inl (fun _ => 0)))), (q3, .inl (cI, 6, (.inl (fun _ => 0)))), (q5, .inl (cI, 49152, (.inl (fun _ => 0)))), (q7, .inl (cZ, 768, (.inl (fun _ => 0)))), (q257, .inl (cC, 4, (.inl (g_261))))] H_954 := hP_954
  clear hP_954
  have hD_956 : va_D A [(h0, .inr (12, (fs_256.set 134 (.ref q257)))), (q1, .inl (cI, 4000, (.inl (fun _ => 0)))), (q3, .inl (cI, 6, (.inl (fun _ => 0)))), (q5, .inl (cI, 49152, (.inl (fun _ => 0)))), (q7, .inl (cZ, 768, (.inl (fun _ => 0)))), (q257, .inl (cC, 4, (.inl (g_261))))] := hD_954
  clear hD_954
  obtain ⟨fs_262, efs_262⟩ : ∃ y, y = (fs_256.set 134 (.ref q257)) := ⟨_, rfl⟩
  rw [← efs_262] at hP_955 hD_956
  have hfl_262 : fs_262.length = 172 := by rw [efs_262, List.length_set]; exact hfl_256
  clear hfl_256
  have hP_957 := hP_955.sub (ws' := [(h0, .inr (12, fs_262)), (q1, .inl (cI, 4000, (.inl (fun _ => 0)))), (q3, .inl (cI, 6, (.inl (fun _ => 0)))), (q5, .inl (cI, 49152, (.inl (fun _ => 0)))), (q7, .inl (cZ, 768, (.inl (fun _ => 0))))]) [0, 1, 2, 3, 4] rfl
  clear hP_955
  have hD_958 := hD_956.sub (ws' := [(h0, .inr (12, fs_262)), (q1, .inl (cI, 4000, (.inl (fun _ => 0)))), (q3, .inl (cI, 6, (.inl (fun _ => 0)))), (q5, .inl (cI, 49152, (.inl (fun _ => 0)))), (q7, .inl (cZ, 768, (.inl (fun _ => 0))))]) [0, 1, 2, 3, 4] (by decide) rfl
  clear hD_956
  refine lv_aload_n hx hb dX12_init_1240 rfl (lv_at hl 0 rfl) ?_
  refine lv_sipush (v := 4096) hx hb dX12_init_1241 (by decide) ?_
  refine nw_arr (atype := .int) (N' := 4096) (a0 := (4096, (.inl (fun _ => 0)))) hx hb (hts (.arrayClass .int) (List.mem_of_getElem? (i := 4) rfl)) rfl hK 0 (cI := cI) rfl hP_957 hD_958 hS_954 hA (fun _ => rfl) (by decide) (by decide) (by decide) (Nat.le_of_ble_eq_true rfl) (Nat.le_of_ble_eq_true rfl) dX12_init_1244 (fun q263 H_959 hP_959 hD_959 hS_959 => ?_)
  clear hP_957 hD_958 hS_954
  have hP_960 : va_P (dC, dI) vwCl [(h0, .inr (12, fs_262)), (q1, .inl (cI, 4000, (.inl (fun _ => 0)))), (q3, .inl (cI, 6, (.inl (fun _ => 0)))), (q5, .inl (cI, 49152, (.inl (fun _ => 0)))), (q7, .inl (cZ, 768, (.inl (fun _ => 0)))), (q263, .inl (cI, 4096, (.inl (fun _ => 0))))] H_959 := hP_959
  clear hP_959
  have hD_961 : va_D A [(h0, .inr (12, fs_262)), (q1, .inl (cI, 4000, (.inl (fun _ => 0)))), (q3, .inl (cI, 6, (.inl (fun _ => 0)))), (q5, .inl (cI, 49152, (.inl (fun _ => 0)))), (q7, .inl (cZ, 768, (.inl (fun _ => 0)))), (q263, .inl (cI, 4096, (.inl (fun _ => 0))))] := hD_959
  clear hD_959
  refine W.widen (k := 91) (n := 702455) (by decide) (by decide) ?_
  refine va_putF (D := (dC, dI)) (ci := 12) (v := .ref q263) (ty := .array (.int)) (C := RX12) (T := TX12) (N := 172) hx hb hts inq_X12_init_c12 tyX12 tyX12_ok nmX12 hown hK hP_960 hD_961 hS_959 0 rfl rfl 138 (by decide) (hts (.fieldLink RX12 291 "DiskEvidenceModel" "ops" "[I") (List.mem_of_getElem? (i := 103) rfl)) (fun _ h9 => h9) rfl hin rfl (by decide +kernel) rfl rfl (by rw [hfl_262]; decide) dX12_init_1246 (fun H_962 locs_962 hP_962 hD_962 hS_962 => ?_)
  clear hP_960 hD_961 hS_959
  have hP_963 : va_P (dC, dI) vwCl [(h0, .inr (12, (fs_262.set 138 (.ref q263)))), (q1, .inl (cI, 4000, (.inl (fun _ => 0)))), (q3, .inl (cI, 6, (.inl (fun _ => 0)))), (q5, .inl (cI, 49152, (.inl (fun _ => 0)))), (q7, .inl (cZ, 768, (.inl (fun _ => 0)))), (q263, .inl (cI, 4096, (.inl (fun _ => 0))))] H_962 := hP_962
  clear hP_962
  have hD_964 : va_D A [(h0, .inr (12, (fs_262.set 138 (.ref q263)))), (q1, .inl (cI, 4000, (.inl (fun _ => 0)))), (q3, .inl (cI, 6, (.inl (fun _ => 0)))), (q5, .inl (cI, 49152, (.inl (fun _ => 0)))), (q7, .inl (cZ, 768, (.inl (fun _ => 0)))), (q263, .inl (cI, 4096, (.inl (fun _ => 0))))] := hD_962
  clear hD_962
  obtain ⟨fs_264, efs_264⟩ : ∃ y, y = (fs_262.set 138 (.ref q263)) := ⟨_, rfl⟩
  rw [← efs_264] at hP_963 hD_964
  have hfl_264 : fs_264.length = 172 := by rw [efs_264, List.length_set]; exact hfl_262
  clear hfl_262
  have hP_965 := hP_963.sub (ws' := [(h0, .inr (12, fs_264)), (q1, .inl (cI, 4000, (.inl (fun _ => 0)))), (q3, .inl (cI, 6, (.inl (fun _ => 0)))), (q5, .inl (cI, 49152, (.inl (fun _ => 0)))), (q7, .inl (cZ, 768, (.inl (fun _ => 0))))]) [0, 1, 2, 3, 4] rfl
  clear hP_963
  have hD_966 := hD_964.sub (ws' := [(h0, .inr (12, fs_264)), (q1, .inl (cI, 4000, (.inl (fun _ => 0)))), (q3, .inl (cI, 6, (.inl (fun _ => 0)))), (q5, .inl (cI, 49152, (.inl (fun _ => 0)))), (q7, .inl (cZ, 768, (.inl (fun _ => 0))))]) [0, 1, 2, 3, 4] (by decide) rfl
  clear hD_964
  refine lv_aload_n hx hb dX12_init_1249 rfl (lv_at hl 0 rfl) ?_
  refine lv_sipush (v := 4096) hx hb dX12_init_1250 (by decide) ?_
  refine nw_arr (atype := .int) (N' := 4096) (a0 := (4096, (.inl (fun _ => 0)))) hx hb (hts (.arrayClass .int) (List.mem_of_getElem? (i := 4) rfl)) rfl hK 0 (cI := cI) rfl hP_965 hD_966 hS_962 hA (fun _ => rfl) (by decide) (by decide) (by decide) (Nat.le_of_ble_eq_true rfl) (Nat.le_of_ble_eq_true rfl) dX12_init_1253 (fun q265 H_967 hP_967 hD_967 hS_967 => ?_)
  clear hP_965 hD_966 hS_962
  have hP_968 : va_P (dC, dI) vwCl [(h0, .inr (12, fs_264)), (q1, .inl (cI, 4000, (.inl (fun _ => 0)))), (q3, .inl (cI, 6, (.inl (fun _ => 0)))), (q5, .inl (cI, 49152, (.inl (fun _ => 0)))), (q7, .inl (cZ, 768, (.inl (fun _ => 0)))), (q265, .inl (cI, 4096, (.inl (fun _ => 0))))] H_967 := hP_967
  clear hP_967
  have hD_969 : va_D A [(h0, .inr (12, fs_264)), (q1, .inl (cI, 4000, (.inl (fun _ => 0)))), (q3, .inl (cI, 6, (.inl (fun _ => 0)))), (q5, .inl (cI, 49152, (.inl (fun _ => 0)))), (q7, .inl (cZ, 768, (.inl (fun _ => 0)))), (q265, .inl (cI, 4096, (.inl (fun _ => 0))))] := hD_967
  clear hD_967
  refine W.widen (k := 92) (n := 706551) (by decide) (by decide) ?_
  refine va_putF (D := (dC, dI)) (ci := 12) (v := .ref q265) (ty := .array (.int)) (C := RX12) (T := TX12) (N := 172) hx hb hts inq_X12_init_c12 tyX12 tyX12_ok nmX12 hown hK hP_968 hD_969 hS_967 0 rfl rfl 140 (by decide) (hts (.fieldLink RX12 294 "DiskEvidenceModel" "pile" "[I") (List.mem_of_getElem? (i := 104) rfl)) (fun _ h9 => h9) rfl hin rfl (by decide +kernel) rfl rfl (by rw [hfl_264]; decide) dX12_init_1255 (fun H_970 locs_970 hP_970 hD_970 hS_970 => ?_)
  clear hP_968 hD_969 hS_967
  have hP_971 : va_P (dC, dI) vwCl [(h0, .inr (12, (fs_264.set 140 (.ref q265)))), (q1, .inl (cI, 4000, (.inl (fun _ => 0)))), (q3, .inl (cI, 6, (.inl (fun _ => 0)))), (q5, .inl (cI, 49152, (.inl (fun _ => 0)))), (q7, .inl (cZ, 768, (.inl (fun _ => 0)))), (q265, .inl (cI, 4096, (.inl (fun _ => 0))))] H_970 := hP_970
  clear hP_970
  have hD_972 : va_D A [(h0, .inr (12, (fs_264.set 140 (.ref q265)))), (q1, .inl (cI, 4000, (.inl (fun _ => 0)))), (q3, .inl (cI, 6, (.inl (fun _ => 0)))), (q5, .inl (cI, 49152, (.inl (fun _ => 0)))), (q7, .inl (cZ, 768, (.inl (fun _ => 0)))), (q265, .inl (cI, 4096, (.inl (fun _ => 0))))] := hD_970
  clear hD_970
  obtain ⟨fs_266, efs_266⟩ : ∃ y, y = (fs_264.set 140 (.ref q265)) := ⟨_, rfl⟩
  rw [← efs_266] at hP_971 hD_972
  have hfl_266 : fs_266.length = 172 := by rw [efs_266, List.length_set]; exact hfl_264
  clear hfl_264
  have hP_973 := hP_971.sub (ws' := [(h0, .inr (12, fs_266)), (q1, .inl (cI, 4000, (.inl (fun _ => 0)))), (q3, .inl (cI, 6, (.inl (fun _ => 0)))), (q5, .inl (cI, 49152, (.inl (fun _ => 0)))), (q7, .inl (cZ, 768, (.inl (fun _ => 0))))]) [0, 1, 2, 3, 4] rfl
  clear hP_971
  have hD_974 := hD_972.sub (ws' := [(h0, .inr (12, fs_266)), (q1, .inl (cI, 4000, (.inl (fun _ => 0)))), (q3, .inl (cI, 6, (.inl (fun _ => 0)))), (q5, .inl (cI, 49152, (.inl (fun _ => 0)))), (q7, .inl (cZ, 768, (.inl (fun _ => 0))))]) [0, 1, 2, 3, 4] (by decide) rfl
  clear hD_972
  refine lv_aload_n hx hb dX12_init_1258 rfl (lv_at hl 0 rfl) ?_
  refine lv_sipush (v := 2048) hx hb dX12_init_1259 (by decide) ?_
  refine nw_arr (atype := .int) (N' := 2048) (a0 := (2048, (.inl (fun _ => 0)))) hx hb (hts (.arrayClass .int) (List.mem_of_getElem? (i := 4) rfl)) rfl hK 0 (cI := cI) rfl hP_973 hD_974 hS_970 hA (fun _ => rfl) (by decide) (by decide) (by decide) (Nat.le_of_ble_eq_true rfl) (Nat.le_of_ble_eq_true rfl) dX12_init_1262 (fun q267 H_975 hP_975 hD_975 hS_975 => ?_)
  clear hP_973 hD_974 hS_970
  have hP_976 : va_P (dC, dI) vwCl [(h0, .inr (12, fs_266)), (q1, .inl (cI, 4000, (.inl (fun _ => 0)))), (q3, .inl (cI, 6, (.inl (fun _ => 0)))), (q5, .inl (cI, 49152, (.inl (fun _ => 0)))), (q7, .inl (cZ, 768, (.inl (fun _ => 0)))), (q267, .inl (cI, 2048, (.inl (fun _ => 0))))] H_975 := hP_975
  clear hP_975
  have hD_977 : va_D A [(h0, .inr (12, fs_266)), (q1, .inl (cI, 4000, (.inl (fun _ => 0)))), (q3, .inl (cI, 6, (.inl (fun _ => 0)))), (q5, .inl (cI, 49152, (.inl (fun _ => 0)))), (q7, .inl (cZ, 768, (.inl (fun _ => 0)))), (q267, .inl (cI, 2048, (.inl (fun _ => 0))))] := hD_975
  clear hD_975
  refine W.widen (k := 93) (n := 708599) (by decide) (by decide) ?_
  refine va_putF (D := (dC, dI)) (ci := 12) (v := .ref q267) (ty := .array (.int)) (C := RX12) (T := TX12) (N := 172) hx hb hts inq_X12_init_c12 tyX12 tyX12_ok nmX12 hown hK hP_976 hD_977 hS_975 0 rfl rfl 142 (by decide) (hts (.fieldLink RX12 297 "DiskEvidenceModel" "askField" "[I") (List.mem_of_getElem? (i := 105) rfl)) (fun _ h9 => h9) rfl hin rfl (by decide +kernel) rfl rfl (by rw [hfl_266]; decide) dX12_init_1264 (fun H_978 locs_978 hP_978 hD_978 hS_978 => ?_)
  clear hP_976 hD_977 hS_975
  have hP_979 : va_P (dC, dI) vwCl [(h0, .inr (12, (fs_266.set 142 (.ref q267)))), (q1, .inl (cI, 4000, (.inl (fun _ => 0)))), (q3, .inl (cI, 6, (.inl (fun _ => 0)))), (q5, .inl (cI, 49152, (.inl (fun _ => 0)))), (q7, .inl (cZ, 768, (.inl (fun _ => 0)))), (q267, .inl (cI, 2048, (.inl (fun _ => 0))))] H_978 := hP_978
  clear hP_978
  have hD_980 : va_D A [(h0, .inr (12, (fs_266.set 142 (.ref q267)))), (q1, .inl (cI, 4000, (.inl (fun _ => 0)))), (q3, .inl (cI, 6, (.inl (fun _ => 0)))), (q5, .inl (cI, 49152, (.inl (fun _ => 0)))), (q7, .inl (cZ, 768, (.inl (fun _ => 0)))), (q267, .inl (cI, 2048, (.inl (fun _ => 0))))] := hD_978
  clear hD_978
  obtain ⟨fs_268, efs_268⟩ : ∃ y, y = (fs_266.set 142 (.ref q267)) := ⟨_, rfl⟩
  rw [← efs_268] at hP_979 hD_980
  have hfl_268 : fs_268.length = 172 := by rw [efs_268, List.length_set]; exact hfl_266
  clear hfl_266
  have hP_981 := hP_979.sub (ws' := [(h0, .inr (12, fs_268)), (q1, .inl (cI, 4000, (.inl (fun _ => 0)))), (q3, .inl (cI, 6, (.inl (fun _ => 0)))), (q5, .inl (cI, 49152, (.inl (fun _ => 0)))), (q7, .inl (cZ, 768, (.inl (fun _ => 0))))]) [0, 1, 2, 3, 4] rfl
  clear hP_979
  have hD_982 := hD_980.sub (ws' := [(h0, .inr (12, fs_268)), (q1, .inl (cI, 4000, (.inl (fun _ => 0)))), (q3, .inl (cI, 6, (.inl (fun _ => 0)))), (q5, .inl (cI, 49152, (.inl (fun _ => 0)))), (q7, .inl (cZ, 768, (.inl (fun _ => 0))))]) [0, 1, 2, 3, 4] (by decide) rfl
  clear hD_980
  refine lv_aload_n hx hb dX12_init_1267 rfl (lv_at hl 0 rfl) ?_
  refine lv_sipush (v := 2048) hx hb dX12_init_1268 (by decide) ?_
  refine nw_arr (atype := .int) (N' := 2048) (a0 := (2048, (.inl (fun _ => 0)))) hx hb (hts (.arrayClass .int) (List.mem_of_getElem? (i := 4) rfl)) rfl hK 0 (cI := cI) rfl hP_981 hD_982 hS_978 hA (fun _ => rfl) (by decide) (by decide) (by decide) (Nat.le_of_ble_eq_true rfl) (Nat.le_of_ble_eq_true rfl) dX12_init_1271 (fun q269 H_983 hP_983 hD_983 hS_983 => ?_)
  clear hP_981 hD_982 hS_978
  have hP_984 : va_P (dC, dI) vwCl [(h0, .inr (12, fs_268)), (q1, .inl (cI, 4000, (.inl (fun _ => 0)))), (q3, .inl (cI, 6, (.inl (fun _ => 0)))), (q5, .inl (cI, 49152, (.inl (fun _ => 0)))), (q7, .inl (cZ, 768, (.inl (fun _ => 0)))), (q269, .inl (cI, 2048, (.inl (fun _ => 0))))] H_983 := hP_983
  clear hP_983
  have hD_985 : va_D A [(h0, .inr (12, fs_268)), (q1, .inl (cI, 4000, (.inl (fun _ => 0)))), (q3, .inl (cI, 6, (.inl (fun _ => 0)))), (q5, .inl (cI, 49152, (.inl (fun _ => 0)))), (q7, .inl (cZ, 768, (.inl (fun _ => 0)))), (q269, .inl (cI, 2048, (.inl (fun _ => 0))))] := hD_983
  clear hD_983
  refine W.widen (k := 94) (n := 710647) (by decide) (by decide) ?_
  refine va_putF (D := (dC, dI)) (ci := 12) (v := .ref q269) (ty := .array (.int)) (C := RX12) (T := TX12) (N := 172) hx hb hts inq_X12_init_c12 tyX12 tyX12_ok nmX12 hown hK hP_984 hD_985 hS_983 0 rfl rfl 143 (by decide) (hts (.fieldLink RX12 300 "DiskEvidenceModel" "askHow" "[I") (List.mem_of_getElem? (i := 106) rfl)) (fun _ h9 => h9) rfl hin rfl (by decide +kernel) rfl rfl (by rw [hfl_268]; decide) dX12_init_1273 (fun H_986 locs_986 hP_986 hD_986 hS_986 => ?_)
  clear hP_984 hD_985 hS_983
  have hP_987 : va_P (dC, dI) vwCl [(h0, .inr (12, (fs_268.set 143 (.ref q269)))), (q1, .inl (cI, 4000, (.inl (fun _ => 0)))), (q3, .inl (cI, 6, (.inl (fun _ => 0)))), (q5, .inl (cI, 49152, (.inl (fun _ => 0)))), (q7, .inl (cZ, 768, (.inl (fun _ => 0)))), (q269, .inl (cI, 2048, (.inl (fun _ => 0))))] H_986 := hP_986
  clear hP_986
  have hD_988 : va_D A [(h0, .inr (12, (fs_268.set 143 (.ref q269)))), (q1, .inl (cI, 4000, (.inl (fun _ => 0)))), (q3, .inl (cI, 6, (.inl (fun _ => 0)))), (q5, .inl (cI, 49152, (.inl (fun _ => 0)))), (q7, .inl (cZ, 768, (.inl (fun _ => 0)))), (q269, .inl (cI, 2048, (.inl (fun _ => 0))))] := hD_986
  clear hD_986
  obtain ⟨fs_270, efs_270⟩ : ∃ y, y = (fs_268.set 143 (.ref q269)) := ⟨_, rfl⟩
  rw [← efs_270] at hP_987 hD_988
  have hfl_270 : fs_270.length = 172 := by rw [efs_270, List.length_set]; exact hfl_268
  clear hfl_268
  have hP_989 := hP_987.sub (ws' := [(h0, .inr (12, fs_270)), (q1, .inl (cI, 4000, (.inl (fun _ => 0)))), (q3, .inl (cI, 6, (.inl (fun _ => 0)))), (q5, .inl (cI, 49152, (.inl (fun _ => 0)))), (q7, .inl (cZ, 768, (.inl (fun _ => 0))))]) [0, 1, 2, 3, 4] rfl
  clear hP_987
  have hD_990 := hD_988.sub (ws' := [(h0, .inr (12, fs_270)), (q1, .inl (cI, 4000, (.inl (fun _ => 0)))), (q3, .inl (cI, 6, (.inl (fun _ => 0)))), (q5, .inl (cI, 49152, (.inl (fun _ => 0)))), (q7, .inl (cZ, 768, (.inl (fun _ => 0))))]) [0, 1, 2, 3, 4] (by decide) rfl
  clear hD_988
  refine lv_aload_n hx hb dX12_init_1276 rfl (lv_at hl 0 rfl) ?_
  refine lv_sipush (v := 2048) hx hb dX12_init_1277 (by decide) ?_
  refine nw_arr (atype := .int) (N' := 2048) (a0 := (2048, (.inl (fun _ => 0)))) hx hb (hts (.arrayClass .int) (List.mem_of_getElem? (i := 4) rfl)) rfl hK 0 (cI := cI) rfl hP_989 hD_990 hS_986 hA (fun _ => rfl) (by decide) (by decide) (by decide) (Nat.le_of_ble_eq_true rfl) (Nat.le_of_ble_eq_true rfl) dX12_init_1280 (fun q271 H_991 hP_991 hD_991 hS_991 => ?_)
  clear hP_989 hD_990 hS_986
  have hP_992 : va_P (dC, dI) vwCl [(h0, .inr (12, fs_270)), (q1, .inl (cI, 4000, (.inl (fun _ => 0)))), (q3, .inl (cI, 6, (.inl (fun _ => 0)))), (q5, .inl (cI, 49152, (.inl (fun _ => 0)))), (q7, .inl (cZ, 768, (.inl (fun _ => 0)))), (q271, .inl (cI, 2048, (.inl (fun _ => 0))))] H_991 := hP_991
  clear hP_991
  have hD_993 : va_D A [(h0, .inr (12, fs_270)), (q1, .inl (cI, 4000, (.inl (fun _ => 0)))), (q3, .inl (cI, 6, (.inl (fun _ => 0)))), (q5, .inl (cI, 49152, (.inl (fun _ => 0)))), (q7, .inl (cZ, 768, (.inl (fun _ => 0)))), (q271, .inl (cI, 2048, (.inl (fun _ => 0))))] := hD_991
  clear hD_991
  refine W.widen (k := 95) (n := 712695) (by decide) (by decide) ?_
  refine va_putF (D := (dC, dI)) (ci := 12) (v := .ref q271) (ty := .array (.int)) (C := RX12) (T := TX12) (N := 172) hx hb hts inq_X12_init_c12 tyX12 tyX12_ok nmX12 hown hK hP_992 hD_993 hS_991 0 rfl rfl 144 (by decide) (hts (.fieldLink RX12 303 "DiskEvidenceModel" "askFrom" "[I") (List.mem_of_getElem? (i := 107) rfl)) (fun _ h9 => h9) rfl hin rfl (by decide +kernel) rfl rfl (by rw [hfl_270]; decide) dX12_init_1282 (fun H_994 locs_994 hP_994 hD_994 hS_994 => ?_)
  clear hP_992 hD_993 hS_991
  have hP_995 : va_P (dC, dI) vwCl [(h0, .inr (12, (fs_270.set 144 (.ref q271)))), (q1, .inl (cI, 4000, (.inl (fun _ => 0)))), (q3, .inl (cI, 6, (.inl (fun _ => 0)))), (q5, .inl (cI, 49152, (.inl (fun _ => 0)))), (q7, .inl (cZ, 768, (.inl (fun _ => 0)))), (q271, .inl (cI, 2048, (.inl (fun _ => 0))))] H_994 := hP_994
  clear hP_994
  have hD_996 : va_D A [(h0, .inr (12, (fs_270.set 144 (.ref q271)))), (q1, .inl (cI, 4000, (.inl (fun _ => 0)))), (q3, .inl (cI, 6, (.inl (fun _ => 0)))), (q5, .inl (cI, 49152, (.inl (fun _ => 0)))), (q7, .inl (cZ, 768, (.inl (fun _ => 0)))), (q271, .inl (cI, 2048, (.inl (fun _ => 0))))] := hD_994
  clear hD_994
  obtain ⟨fs_272, efs_272⟩ : ∃ y, y = (fs_270.set 144 (.ref q271)) := ⟨_, rfl⟩
  rw [← efs_272] at hP_995 hD_996
  have hfl_272 : fs_272.length = 172 := by rw [efs_272, List.length_set]; exact hfl_270
  clear hfl_270
  have el_272 : fs_272 = [.int 0, .ref q1, .int 0, .int 0, .ref q3, .ref q5, .ref q7, .int 0, .ref q9, .ref q11, .ref q13, .ref q15, .ref q17, .ref q19, .ref q21, .int 1, .int 0, .ref q24, .ref q26, .int 0, .int 0, .ref q28, .ref q30, .ref q32, .ref q34, .ref q36, .int 0, .ref q38, .ref q40, .int 0, .int 0, .ref q42, .ref q44, .ref q46, .int 0, .ref q48, .ref q50, .ref q52, .ref q54, .int 0, .int 0, .int 0, .int 0, .int 0, .int 0, .int 0, .int 0, .int 0, .int 0, .int 0, .ref q56, .ref q58, .int 0, .int 0, .ref q60, .int 0, .int 0, .int 0, .int 0, .int 0, .ref q62, .ref q64, .ref q66, .ref q68, .ref q70, .ref q72, .ref q74, .ref q76, .ref q78, .ref q80, .ref q82, .ref q84, .ref q86, .ref q88, .ref q90, .ref q92, .ref q94, .ref q96, .ref q98, .ref q100, .ref q102, .ref q104, .ref q106, .ref q108, .ref q110, .ref q112, .ref q114, .ref q116, .ref q118, .ref q120, .ref q122, .int 0, .int 0, .int 0, .ref q124, .ref q126, .ref q128, .int 0, .ref q130, .ref q132, .ref q134, .ref q136, .int 0, .ref q138, .ref q140, .ref q142, .int 0, .int 0, .int 0, .int 0, .int 0, .ref q144, .ref q146, .ref q148, .ref q150, .ref q152, .ref q154, .ref q156, .ref q158, .ref q160, .int 0, .ref q162, .int 0, .ref q164, .int 0, .ref q166, .ref q168, .ref q170, .int 0, .int 0, .ref q172, .ref q174, .ref q176, .ref q244, .ref q257, .int 0, .int 0, .int 0, .ref q263, .int 0, .ref q265, .int 0, .ref q267, .ref q269, .ref q271, .null, .int 0, .int 0, .null, .int 0, .null, .int 0, .null, .null, .null, .null, .null, .int 0, .null, .null, .null, .int 0, .null, .null, .null, .null, .null, .int 0, .null, .null, .null, .null] := by rw [efs_272, efs_270, efs_268, efs_266, efs_264, efs_262, efs_256, efs_243, efs_175, efs_173, efs_171, efs_169, el_167]; rfl
  clear efs_169 efs_171 efs_173 efs_175 efs_243 efs_256 efs_262 efs_264 efs_266 efs_268 efs_270 efs_272 el_167
  have hP_997 := hP_995.sub (ws' := [(h0, .inr (12, fs_272)), (q1, .inl (cI, 4000, (.inl (fun _ => 0)))), (q3, .inl (cI, 6, (.inl (fun _ => 0)))), (q5, .inl (cI, 49152, (.inl (fun _ => 0)))), (q7, .inl (cZ, 768, (.inl (fun _ => 0))))]) [0, 1, 2, 3, 4] rfl
  clear hP_995
  have hD_998 := hD_996.sub (ws' := [(h0, .inr (12, fs_272)), (q1, .inl (cI, 4000, (.inl (fun _ => 0)))), (q3, .inl (cI, 6, (.inl (fun _ => 0)))), (q5, .inl (cI, 49152, (.inl (fun _ => 0)))), (q7, .inl (cZ, 768, (.inl (fun _ => 0))))]) [0, 1, 2, 3, 4] (by decide) rfl
  clear hD_996
  refine lv_aload_n hx hb dX12_init_1285 rfl (lv_at hl 0 rfl) ?_
  refine lv_sipush (v := 2048) hx hb dX12_init_1286 (by decide) ?_
  refine nw_arr (atype := .int) (N' := 2048) (a0 := (2048, (.inl (fun _ => 0)))) hx hb (hts (.arrayClass .int) (List.mem_of_getElem? (i := 4) rfl)) rfl hK 0 (cI := cI) rfl hP_997 hD_998 hS_994 hA (fun _ => rfl) (by decide) (by decide) (by decide) (Nat.le_of_ble_eq_true rfl) (Nat.le_of_ble_eq_true rfl) dX12_init_1289 (fun q273 H_999 hP_999 hD_999 hS_999 => ?_)
  clear hP_997 hD_998 hS_994
  have hP_1000 : va_P (dC, dI) vwCl [(h0, .inr (12, fs_272)), (q1, .inl (cI, 4000, (.inl (fun _ => 0)))), (q3, .inl (cI, 6, (.inl (fun _ => 0)))), (q5, .inl (cI, 49152, (.inl (fun _ => 0)))), (q7, .inl (cZ, 768, (.inl (fun _ => 0)))), (q273, .inl (cI, 2048, (.inl (fun _ => 0))))] H_999 := hP_999
  clear hP_999
  have hD_1001 : va_D A [(h0, .inr (12, fs_272)), (q1, .inl (cI, 4000, (.inl (fun _ => 0)))), (q3, .inl (cI, 6, (.inl (fun _ => 0)))), (q5, .inl (cI, 49152, (.inl (fun _ => 0)))), (q7, .inl (cZ, 768, (.inl (fun _ => 0)))), (q273, .inl (cI, 2048, (.inl (fun _ => 0))))] := hD_999
  clear hD_999
  refine W.widen (k := 96) (n := 714743) (by decide) (by decide) ?_
  refine va_putF (D := (dC, dI)) (ci := 12) (v := .ref q273) (ty := .array (.int)) (C := RX12) (T := TX12) (N := 172) hx hb hts inq_X12_init_c12 tyX12 tyX12_ok nmX12 hown hK hP_1000 hD_1001 hS_999 0 rfl rfl 145 (by decide) (hts (.fieldLink RX12 306 "DiskEvidenceModel" "askTo" "[I") (List.mem_of_getElem? (i := 108) rfl)) (fun _ h9 => h9) rfl hin rfl (by decide +kernel) rfl rfl (by rw [hfl_272]; decide) dX12_init_1291 (fun H_1002 locs_1002 hP_1002 hD_1002 hS_1002 => ?_)
  clear hP_1000 hD_1001 hS_999
  have hP_1003 : va_P (dC, dI) vwCl [(h0, .inr (12, (fs_272.set 145 (.ref q273)))), (q1, .inl (cI, 4000, (.inl (fun _ => 0)))), (q3, .inl (cI, 6, (.inl (fun _ => 0)))), (q5, .inl (cI, 49152, (.inl (fun _ => 0)))), (q7, .inl (cZ, 768, (.inl (fun _ => 0)))), (q273, .inl (cI, 2048, (.inl (fun _ => 0))))] H_1002 := hP_1002
  clear hP_1002
  have hD_1004 : va_D A [(h0, .inr (12, (fs_272.set 145 (.ref q273)))), (q1, .inl (cI, 4000, (.inl (fun _ => 0)))), (q3, .inl (cI, 6, (.inl (fun _ => 0)))), (q5, .inl (cI, 49152, (.inl (fun _ => 0)))), (q7, .inl (cZ, 768, (.inl (fun _ => 0)))), (q273, .inl (cI, 2048, (.inl (fun _ => 0))))] := hD_1002
  clear hD_1002
  obtain ⟨fs_274, efs_274⟩ : ∃ y, y = (fs_272.set 145 (.ref q273)) := ⟨_, rfl⟩
  rw [← efs_274] at hP_1003 hD_1004
  have hfl_274 : fs_274.length = 172 := by rw [efs_274, List.length_set]; exact hfl_272
  clear hfl_272
  have hP_1005 := hP_1003.sub (ws' := [(h0, .inr (12, fs_274)), (q1, .inl (cI, 4000, (.inl (fun _ => 0)))), (q3, .inl (cI, 6, (.inl (fun _ => 0)))), (q5, .inl (cI, 49152, (.inl (fun _ => 0)))), (q7, .inl (cZ, 768, (.inl (fun _ => 0))))]) [0, 1, 2, 3, 4] rfl
  clear hP_1003
  have hD_1006 := hD_1004.sub (ws' := [(h0, .inr (12, fs_274)), (q1, .inl (cI, 4000, (.inl (fun _ => 0)))), (q3, .inl (cI, 6, (.inl (fun _ => 0)))), (q5, .inl (cI, 49152, (.inl (fun _ => 0)))), (q7, .inl (cZ, 768, (.inl (fun _ => 0))))]) [0, 1, 2, 3, 4] (by decide) rfl
  clear hD_1004
  refine lv_aload_n hx hb dX12_init_1294 rfl (lv_at hl 0 rfl) ?_
  refine lv_sipush (v := 2048) hx hb dX12_init_1295 (by decide) ?_
  refine nw_arr (atype := .boolean) (N' := 2048) (a0 := (2048, (.inl (fun _ => 0)))) hx hb (hts (.arrayClass .boolean) (List.mem_of_getElem? (i := 9) rfl)) rfl hK 2 (cI := cZ) rfl hP_1005 hD_1006 hS_1002 hA (fun _ => rfl) (by decide) (by decide) (by decide) (Nat.le_of_ble_eq_true rfl) (Nat.le_of_ble_eq_true rfl) dX12_init_1298 (fun q275 H_1007 hP_1007 hD_1007 hS_1007 => ?_)
  clear hP_1005 hD_1006 hS_1002
  have hP_1008 : va_P (dC, dI) vwCl [(h0, .inr (12, fs_274)), (q1, .inl (cI, 4000, (.inl (fun _ => 0)))), (q3, .inl (cI, 6, (.inl (fun _ => 0)))), (q5, .inl (cI, 49152, (.inl (fun _ => 0)))), (q7, .inl (cZ, 768, (.inl (fun _ => 0)))), (q275, .inl (cZ, 2048, (.inl (fun _ => 0))))] H_1007 := hP_1007
  clear hP_1007
  have hD_1009 : va_D A [(h0, .inr (12, fs_274)), (q1, .inl (cI, 4000, (.inl (fun _ => 0)))), (q3, .inl (cI, 6, (.inl (fun _ => 0)))), (q5, .inl (cI, 49152, (.inl (fun _ => 0)))), (q7, .inl (cZ, 768, (.inl (fun _ => 0)))), (q275, .inl (cZ, 2048, (.inl (fun _ => 0))))] := hD_1007
  clear hD_1007
  refine W.widen (k := 97) (n := 716791) (by decide) (by decide) ?_
  refine va_putF (D := (dC, dI)) (ci := 12) (v := .ref q275) (ty := .array (.boolean)) (C := RX12) (T := TX12) (N := 172) hx hb hts inq_X12_init_c12 tyX12 tyX12_ok nmX12 hown hK hP_1008 hD_1009 hS_1007 0 rfl rfl 148 (by decide) (hts (.fieldLink RX12 309 "DiskEvidenceModel" "truths" "[Z") (List.mem_of_getElem? (i := 109) rfl)) (fun _ h9 => h9) rfl hin rfl (by decide +kernel) rfl rfl (by rw [hfl_274]; decide) dX12_init_1300 (fun H_1010 locs_1010 hP_1010 hD_1010 hS_1010 => ?_)
  clear hP_1008 hD_1009 hS_1007
  have hP_1011 : va_P (dC, dI) vwCl [(h0, .inr (12, (fs_274.set 148 (.ref q275)))), (q1, .inl (cI, 4000, (.inl (fun _ => 0)))), (q3, .inl (cI, 6, (.inl (fun _ => 0)))), (q5, .inl (cI, 49152, (.inl (fun _ => 0)))), (q7, .inl (cZ, 768, (.inl (fun _ => 0)))), (q275, .inl (cZ, 2048, (.inl (fun _ => 0))))] H_1010 := hP_1010
  clear hP_1010
  have hD_1012 : va_D A [(h0, .inr (12, (fs_274.set 148 (.ref q275)))), (q1, .inl (cI, 4000, (.inl (fun _ => 0)))), (q3, .inl (cI, 6, (.inl (fun _ => 0)))), (q5, .inl (cI, 49152, (.inl (fun _ => 0)))), (q7, .inl (cZ, 768, (.inl (fun _ => 0)))), (q275, .inl (cZ, 2048, (.inl (fun _ => 0))))] := hD_1010
  clear hD_1010
  obtain ⟨fs_276, efs_276⟩ : ∃ y, y = (fs_274.set 148 (.ref q275)) := ⟨_, rfl⟩
  rw [← efs_276] at hP_1011 hD_1012
  have hfl_276 : fs_276.length = 172 := by rw [efs_276, List.length_set]; exact hfl_274
  clear hfl_274
  have hP_1013 := hP_1011.sub (ws' := [(h0, .inr (12, fs_276)), (q1, .inl (cI, 4000, (.inl (fun _ => 0)))), (q3, .inl (cI, 6, (.inl (fun _ => 0)))), (q5, .inl (cI, 49152, (.inl (fun _ => 0)))), (q7, .inl (cZ, 768, (.inl (fun _ => 0))))]) [0, 1, 2, 3, 4] rfl
  clear hP_1011
  have hD_1014 := hD_1012.sub (ws' := [(h0, .inr (12, fs_276)), (q1, .inl (cI, 4000, (.inl (fun _ => 0)))), (q3, .inl (cI, 6, (.inl (fun _ => 0)))), (q5, .inl (cI, 49152, (.inl (fun _ => 0)))), (q7, .inl (cZ, 768, (.inl (fun _ => 0))))]) [0, 1, 2, 3, 4] (by decide) rfl
  clear hD_1012
  refine lv_aload_n hx hb dX12_init_1303 rfl (lv_at hl 0 rfl) ?_
  refine lv_sipush (v := 150) hx hb dX12_init_1304 (by decide) ?_
  refine nw_arr (atype := .int) (N' := 150) (a0 := (150, (.inl (fun _ => 0)))) hx hb (hts (.arrayClass .int) (List.mem_of_getElem? (i := 4) rfl)) rfl hK 0 (cI := cI) rfl hP_1013 hD_1014 hS_1010 hA (fun _ => rfl) (by decide) (by decide) (by decide) (Nat.le_of_ble_eq_true rfl) (Nat.le_of_ble_eq_true rfl) dX12_init_1307 (fun q277 H_1015 hP_1015 hD_1015 hS_1015 => ?_)
  clear hP_1013 hD_1014 hS_1010
  have hP_1016 : va_P (dC, dI) vwCl [(h0, .inr (12, fs_276)), (q1, .inl (cI, 4000, (.inl (fun _ => 0)))), (q3, .inl (cI, 6, (.inl (fun _ => 0)))), (q5, .inl (cI, 49152, (.inl (fun _ => 0)))), (q7, .inl (cZ, 768, (.inl (fun _ => 0)))), (q277, .inl (cI, 150, (.inl (fun _ => 0))))] H_1015 := hP_1015
  clear hP_1015
  have hD_1017 : va_D A [(h0, .inr (12, fs_276)), (q1, .inl (cI, 4000, (.inl (fun _ => 0)))), (q3, .inl (cI, 6, (.inl (fun _ => 0)))), (q5, .inl (cI, 49152, (.inl (fun _ => 0)))), (q7, .inl (cZ, 768, (.inl (fun _ => 0)))), (q277, .inl (cI, 150, (.inl (fun _ => 0))))] := hD_1015
  clear hD_1015
  refine W.widen (k := 98) (n := 716941) (by decide) (by decide) ?_
  refine va_putF (D := (dC, dI)) (ci := 12) (v := .ref q277) (ty := .array (.int)) (C := RX12) (T := TX12) (N := 172) hx hb hts inq_X12_init_c12 tyX12 tyX12_ok nmX12 hown hK hP_1016 hD_1017 hS_1015 0 rfl rfl 150 (by decide) (hts (.fieldLink RX12 312 "DiskEvidenceModel" "result" "[I") (List.mem_of_getElem? (i := 110) rfl)) (fun _ h9 => h9) rfl hin rfl (by decide +kernel) rfl rfl (by rw [hfl_276]; decide) dX12_init_1309 (fun H_1018 locs_1018 hP_1018 hD_1018 hS_1018 => ?_)
  clear hP_1016 hD_1017 hS_1015
  have hP_1019 : va_P (dC, dI) vwCl [(h0, .inr (12, (fs_276.set 150 (.ref q277)))), (q1, .inl (cI, 4000, (.inl (fun _ => 0)))), (q3, .inl (cI, 6, (.inl (fun _ => 0)))), (q5, .inl (cI, 49152, (.inl (fun _ => 0)))), (q7, .inl (cZ, 768, (.inl (fun _ => 0)))), (q277, .inl (cI, 150, (.inl (fun _ => 0))))] H_1018 := hP_1018
  clear hP_1018
  have hD_1020 : va_D A [(h0, .inr (12, (fs_276.set 150 (.ref q277)))), (q1, .inl (cI, 4000, (.inl (fun _ => 0)))), (q3, .inl (cI, 6, (.inl (fun _ => 0)))), (q5, .inl (cI, 49152, (.inl (fun _ => 0)))), (q7, .inl (cZ, 768, (.inl (fun _ => 0)))), (q277, .inl (cI, 150, (.inl (fun _ => 0))))] := hD_1018
  clear hD_1018
  obtain ⟨fs_278, efs_278⟩ : ∃ y, y = (fs_276.set 150 (.ref q277)) := ⟨_, rfl⟩
  rw [← efs_278] at hP_1019 hD_1020
  have hfl_278 : fs_278.length = 172 := by rw [efs_278, List.length_set]; exact hfl_276
  clear hfl_276
  have hP_1021 := hP_1019.sub (ws' := [(h0, .inr (12, fs_278)), (q1, .inl (cI, 4000, (.inl (fun _ => 0)))), (q3, .inl (cI, 6, (.inl (fun _ => 0)))), (q5, .inl (cI, 49152, (.inl (fun _ => 0)))), (q7, .inl (cZ, 768, (.inl (fun _ => 0))))]) [0, 1, 2, 3, 4] rfl
  clear hP_1019
  have hD_1022 := hD_1020.sub (ws' := [(h0, .inr (12, fs_278)), (q1, .inl (cI, 4000, (.inl (fun _ => 0)))), (q3, .inl (cI, 6, (.inl (fun _ => 0)))), (q5, .inl (cI, 49152, (.inl (fun _ => 0)))), (q7, .inl (cZ, 768, (.inl (fun _ => 0))))]) [0, 1, 2, 3, 4] (by decide) rfl
  clear hD_1020
  refine lv_aload_n hx hb dX12_init_1312 rfl (lv_at hl 0 rfl) ?_
  refine lv_sipush (v := 4000) hx hb dX12_init_1313 (by decide) ?_
  refine nw_arr (atype := .long) (N' := 4000) (a0 := (4000, (.inr (.inl (fun _ => 0))))) hx hb (hts (.arrayClass .long) (List.mem_of_getElem? (i := 57) rfl)) rfl hK 3 (cI := cJ) rfl hP_1021 hD_1022 hS_1018 hA (fun _ => rfl) (by decide) (by decide) (by decide) (Nat.le_of_ble_eq_true rfl) (Nat.le_of_ble_eq_true rfl) dX12_init_1316 (fun q279 H_1023 hP_1023 hD_1023 hS_1023 => ?_)
  clear hP_1021 hD_1022 hS_1018
  have hP_1024 : va_P (dC, dI) vwCl [(h0, .inr (12, fs_278)), (q1, .inl (cI, 4000, (.inl (fun _ => 0)))), (q3, .inl (cI, 6, (.inl (fun _ => 0)))), (q5, .inl (cI, 49152, (.inl (fun _ => 0)))), (q7, .inl (cZ, 768, (.inl (fun _ => 0)))), (q279, .inl (cJ, 4000, (.inr (.inl (fun _ => 0)))))] H_1023 := hP_1023
  clear hP_1023
  have hD_1025 : va_D A [(h0, .inr (12, fs_278)), (q1, .inl (cI, 4000, (.inl (fun _ => 0)))), (q3, .inl (cI, 6, (.inl (fun _ => 0)))), (q5, .inl (cI, 49152, (.inl (fun _ => 0)))), (q7, .inl (cZ, 768, (.inl (fun _ => 0)))), (q279, .inl (cJ, 4000, (.inr (.inl (fun _ => 0)))))] := hD_1023
  clear hD_1023
  refine W.widen (k := 99) (n := 720941) (by decide) (by decide) ?_
  refine va_putF (D := (dC, dI)) (ci := 12) (v := .ref q279) (ty := .array (.long)) (C := RX12) (T := TX12) (N := 172) hx hb hts inq_X12_init_c12 tyX12 tyX12_ok nmX12 hown hK hP_1024 hD_1025 hS_1023 0 rfl rfl 152 (by decide) (hts (.fieldLink RX12 315 "DiskEvidenceModel" "momentAt" "[J") (List.mem_of_getElem? (i := 111) rfl)) (fun _ h9 => h9) rfl hin rfl (by decide +kernel) rfl rfl (by rw [hfl_278]; decide) dX12_init_1318 (fun H_1026 locs_1026 hP_1026 hD_1026 hS_1026 => ?_)
  clear hP_1024 hD_1025 hS_1023
  have hP_1027 : va_P (dC, dI) vwCl [(h0, .inr (12, (fs_278.set 152 (.ref q279)))), (q1, .inl (cI, 4000, (.inl (fun _ => 0)))), (q3, .inl (cI, 6, (.inl (fun _ => 0)))), (q5, .inl (cI, 49152, (.inl (fun _ => 0)))), (q7, .inl (cZ, 768, (.inl (fun _ => 0)))), (q279, .inl (cJ, 4000, (.inr (.inl (fun _ => 0)))))] H_1026 := hP_1026
  clear hP_1026
  have hD_1028 : va_D A [(h0, .inr (12, (fs_278.set 152 (.ref q279)))), (q1, .inl (cI, 4000, (.inl (fun _ => 0)))), (q3, .inl (cI, 6, (.inl (fun _ => 0)))), (q5, .inl (cI, 49152, (.inl (fun _ => 0)))), (q7, .inl (cZ, 768, (.inl (fun _ => 0)))), (q279, .inl (cJ, 4000, (.inr (.inl (fun _ => 0)))))] := hD_1026
  clear hD_1026
  obtain ⟨fs_280, efs_280⟩ : ∃ y, y = (fs_278.set 152 (.ref q279)) := ⟨_, rfl⟩
  rw [← efs_280] at hP_1027 hD_1028
  have hfl_280 : fs_280.length = 172 := by rw [efs_280, List.length_set]; exact hfl_278
  clear hfl_278
  have hP_1029 := hP_1027.sub (ws' := [(h0, .inr (12, fs_280)), (q1, .inl (cI, 4000, (.inl (fun _ => 0)))), (q3, .inl (cI, 6, (.inl (fun _ => 0)))), (q5, .inl (cI, 49152, (.inl (fun _ => 0)))), (q7, .inl (cZ, 768, (.inl (fun _ => 0))))]) [0, 1, 2, 3, 4] rfl
  clear hP_1027
  have hD_1030 := hD_1028.sub (ws' := [(h0, .inr (12, fs_280)), (q1, .inl (cI, 4000, (.inl (fun _ => 0)))), (q3, .inl (cI, 6, (.inl (fun _ => 0)))), (q5, .inl (cI, 49152, (.inl (fun _ => 0)))), (q7, .inl (cZ, 768, (.inl (fun _ => 0))))]) [0, 1, 2, 3, 4] (by decide) rfl
  clear hD_1028
  refine lv_aload_n hx hb dX12_init_1321 rfl (lv_at hl 0 rfl) ?_
  refine lv_sipush (v := 4000) hx hb dX12_init_1322 (by decide) ?_
  refine nw_arr (atype := .int) (N' := 4000) (a0 := (4000, (.inl (fun _ => 0)))) hx hb (hts (.arrayClass .int) (List.mem_of_getElem? (i := 4) rfl)) rfl hK 0 (cI := cI) rfl hP_1029 hD_1030 hS_1026 hA (fun _ => rfl) (by decide) (by decide) (by decide) (Nat.le_of_ble_eq_true rfl) (Nat.le_of_ble_eq_true rfl) dX12_init_1325 (fun q281 H_1031 hP_1031 hD_1031 hS_1031 => ?_)
  clear hP_1029 hD_1030 hS_1026
  have hP_1032 : va_P (dC, dI) vwCl [(h0, .inr (12, fs_280)), (q1, .inl (cI, 4000, (.inl (fun _ => 0)))), (q3, .inl (cI, 6, (.inl (fun _ => 0)))), (q5, .inl (cI, 49152, (.inl (fun _ => 0)))), (q7, .inl (cZ, 768, (.inl (fun _ => 0)))), (q281, .inl (cI, 4000, (.inl (fun _ => 0))))] H_1031 := hP_1031
  clear hP_1031
  have hD_1033 : va_D A [(h0, .inr (12, fs_280)), (q1, .inl (cI, 4000, (.inl (fun _ => 0)))), (q3, .inl (cI, 6, (.inl (fun _ => 0)))), (q5, .inl (cI, 49152, (.inl (fun _ => 0)))), (q7, .inl (cZ, 768, (.inl (fun _ => 0)))), (q281, .inl (cI, 4000, (.inl (fun _ => 0))))] := hD_1031
  clear hD_1031
  refine W.widen (k := 100) (n := 724941) (by decide) (by decide) ?_
  refine va_putF (D := (dC, dI)) (ci := 12) (v := .ref q281) (ty := .array (.int)) (C := RX12) (T := TX12) (N := 172) hx hb hts inq_X12_init_c12 tyX12 tyX12_ok nmX12 hown hK hP_1032 hD_1033 hS_1031 0 rfl rfl 153 (by decide) (hts (.fieldLink RX12 318 "DiskEvidenceModel" "momentGrain" "[I") (List.mem_of_getElem? (i := 112) rfl)) (fun _ h9 => h9) rfl hin rfl (by decide +kernel) rfl rfl (by rw [hfl_280]; decide) dX12_init_1327 (fun H_1034 locs_1034 hP_1034 hD_1034 hS_1034 => ?_)
  clear hP_1032 hD_1033 hS_1031
  have hP_1035 : va_P (dC, dI) vwCl [(h0, .inr (12, (fs_280.set 153 (.ref q281)))), (q1, .inl (cI, 4000, (.inl (fun _ => 0)))), (q3, .inl (cI, 6, (.inl (fun _ => 0)))), (q5, .inl (cI, 49152, (.inl (fun _ => 0)))), (q7, .inl (cZ, 768, (.inl (fun _ => 0)))), (q281, .inl (cI, 4000, (.inl (fun _ => 0))))] H_1034 := hP_1034
  clear hP_1034
  have hD_1036 : va_D A [(h0, .inr (12, (fs_280.set 153 (.ref q281)))), (q1, .inl (cI, 4000, (.inl (fun _ => 0)))), (q3, .inl (cI, 6, (.inl (fun _ => 0)))), (q5, .inl (cI, 49152, (.inl (fun _ => 0)))), (q7, .inl (cZ, 768, (.inl (fun _ => 0)))), (q281, .inl (cI, 4000, (.inl (fun _ => 0))))] := hD_1034
  clear hD_1034
  obtain ⟨fs_282, efs_282⟩ : ∃ y, y = (fs_280.set 153 (.ref q281)) := ⟨_, rfl⟩
  rw [← efs_282] at hP_1035 hD_1036
  have hfl_282 : fs_282.length = 172 := by rw [efs_282, List.length_set]; exact hfl_280
  clear hfl_280
  have hP_1037 := hP_1035.sub (ws' := [(h0, .inr (12, fs_282)), (q1, .inl (cI, 4000, (.inl (fun _ => 0)))), (q3, .inl (cI, 6, (.inl (fun _ => 0)))), (q5, .inl (cI, 49152, (.inl (fun _ => 0)))), (q7, .inl (cZ, 768, (.inl (fun _ => 0))))]) [0, 1, 2, 3, 4] rfl
  clear hP_1035
  have hD_1038 := hD_1036.sub (ws' := [(h0, .inr (12, fs_282)), (q1, .inl (cI, 4000, (.inl (fun _ => 0)))), (q3, .inl (cI, 6, (.inl (fun _ => 0)))), (q5, .inl (cI, 49152, (.inl (fun _ => 0)))), (q7, .inl (cZ, 768, (.inl (fun _ => 0))))]) [0, 1, 2, 3, 4] (by decide) rfl
  clear hD_1036
  refine lv_aload_n hx hb dX12_init_1330 rfl (lv_at hl 0 rfl) ?_
  refine lv_sipush (v := 4000) hx hb dX12_init_1331 (by decide) ?_
  refine nw_arr (atype := .int) (N' := 4000) (a0 := (4000, (.inl (fun _ => 0)))) hx hb (hts (.arrayClass .int) (List.mem_of_getElem? (i := 4) rfl)) rfl hK 0 (cI := cI) rfl hP_1037 hD_1038 hS_1034 hA (fun _ => rfl) (by decide) (by decide) (by decide) (Nat.le_of_ble_eq_true rfl) (Nat.le_of_ble_eq_true rfl) dX12_init_1334 (fun q283 H_1039 hP_1039 hD_1039 hS_1039 => ?_)
  clear hP_1037 hD_1038 hS_1034
  have hP_1040 : va_P (dC, dI) vwCl [(h0, .inr (12, fs_282)), (q1, .inl (cI, 4000, (.inl (fun _ => 0)))), (q3, .inl (cI, 6, (.inl (fun _ => 0)))), (q5, .inl (cI, 49152, (.inl (fun _ => 0)))), (q7, .inl (cZ, 768, (.inl (fun _ => 0)))), (q283, .inl (cI, 4000, (.inl (fun _ => 0))))] H_1039 := hP_1039
  clear hP_1039
  have hD_1041 : va_D A [(h0, .inr (12, fs_282)), (q1, .inl (cI, 4000, (.inl (fun _ => 0)))), (q3, .inl (cI, 6, (.inl (fun _ => 0)))), (q5, .inl (cI, 49152, (.inl (fun _ => 0)))), (q7, .inl (cZ, 768, (.inl (fun _ => 0)))), (q283, .inl (cI, 4000, (.inl (fun _ => 0))))] := hD_1039
  clear hD_1039
  refine W.widen (k := 101) (n := 728941) (by decide) (by decide) ?_
  refine va_putF (D := (dC, dI)) (ci := 12) (v := .ref q283) (ty := .array (.int)) (C := RX12) (T := TX12) (N := 172) hx hb hts inq_X12_init_c12 tyX12 tyX12_ok nmX12 hown hK hP_1040 hD_1041 hS_1039 0 rfl rfl 154 (by decide) (hts (.fieldLink RX12 321 "DiskEvidenceModel" "momentTree" "[I") (List.mem_of_getElem? (i := 113) rfl)) (fun _ h9 => h9) rfl hin rfl (by decide +kernel) rfl rfl (by rw [hfl_282]; decide) dX12_init_1336 (fun H_1042 locs_1042 hP_1042 hD_1042 hS_1042 => ?_)
  clear hP_1040 hD_1041 hS_1039
  have hP_1043 : va_P (dC, dI) vwCl [(h0, .inr (12, (fs_282.set 154 (.ref q283)))), (q1, .inl (cI, 4000, (.inl (fun _ => 0)))), (q3, .inl (cI, 6, (.inl (fun _ => 0)))), (q5, .inl (cI, 49152, (.inl (fun _ => 0)))), (q7, .inl (cZ, 768, (.inl (fun _ => 0)))), (q283, .inl (cI, 4000, (.inl (fun _ => 0))))] H_1042 := hP_1042
  clear hP_1042
  have hD_1044 : va_D A [(h0, .inr (12, (fs_282.set 154 (.ref q283)))), (q1, .inl (cI, 4000, (.inl (fun _ => 0)))), (q3, .inl (cI, 6, (.inl (fun _ => 0)))), (q5, .inl (cI, 49152, (.inl (fun _ => 0)))), (q7, .inl (cZ, 768, (.inl (fun _ => 0)))), (q283, .inl (cI, 4000, (.inl (fun _ => 0))))] := hD_1042
  clear hD_1042
  obtain ⟨fs_284, efs_284⟩ : ∃ y, y = (fs_282.set 154 (.ref q283)) := ⟨_, rfl⟩
  rw [← efs_284] at hP_1043 hD_1044
  have hfl_284 : fs_284.length = 172 := by rw [efs_284, List.length_set]; exact hfl_282
  clear hfl_282
  have hP_1045 := hP_1043.sub (ws' := [(h0, .inr (12, fs_284)), (q1, .inl (cI, 4000, (.inl (fun _ => 0)))), (q3, .inl (cI, 6, (.inl (fun _ => 0)))), (q5, .inl (cI, 49152, (.inl (fun _ => 0)))), (q7, .inl (cZ, 768, (.inl (fun _ => 0))))]) [0, 1, 2, 3, 4] rfl
  clear hP_1043
  have hD_1046 := hD_1044.sub (ws' := [(h0, .inr (12, fs_284)), (q1, .inl (cI, 4000, (.inl (fun _ => 0)))), (q3, .inl (cI, 6, (.inl (fun _ => 0)))), (q5, .inl (cI, 49152, (.inl (fun _ => 0)))), (q7, .inl (cZ, 768, (.inl (fun _ => 0))))]) [0, 1, 2, 3, 4] (by decide) rfl
  clear hD_1044
  refine lv_aload_n hx hb dX12_init_1339 rfl (lv_at hl 0 rfl) ?_
  refine lv_sipush (v := 4000) hx hb dX12_init_1340 (by decide) ?_
  refine nw_arr (atype := .int) (N' := 4000) (a0 := (4000, (.inl (fun _ => 0)))) hx hb (hts (.arrayClass .int) (List.mem_of_getElem? (i := 4) rfl)) rfl hK 0 (cI := cI) rfl hP_1045 hD_1046 hS_1042 hA (fun _ => rfl) (by decide) (by decide) (by decide) (Nat.le_of_ble_eq_true rfl) (Nat.le_of_ble_eq_true rfl) dX12_init_1343 (fun q285 H_1047 hP_1047 hD_1047 hS_1047 => ?_)
  clear hP_1045 hD_1046 hS_1042
  have hP_1048 : va_P (dC, dI) vwCl [(h0, .inr (12, fs_284)), (q1, .inl (cI, 4000, (.inl (fun _ => 0)))), (q3, .inl (cI, 6, (.inl (fun _ => 0)))), (q5, .inl (cI, 49152, (.inl (fun _ => 0)))), (q7, .inl (cZ, 768, (.inl (fun _ => 0)))), (q285, .inl (cI, 4000, (.inl (fun _ => 0))))] H_1047 := hP_1047
  clear hP_1047
  have hD_1049 : va_D A [(h0, .inr (12, fs_284)), (q1, .inl (cI, 4000, (.inl (fun _ => 0)))), (q3, .inl (cI, 6, (.inl (fun _ => 0)))), (q5, .inl (cI, 49152, (.inl (fun _ => 0)))), (q7, .inl (cZ, 768, (.inl (fun _ => 0)))), (q285, .inl (cI, 4000, (.inl (fun _ => 0))))] := hD_1047
  clear hD_1047
  refine W.widen (k := 102) (n := 732941) (by decide) (by decide) ?_
  refine va_putF (D := (dC, dI)) (ci := 12) (v := .ref q285) (ty := .array (.int)) (C := RX12) (T := TX12) (N := 172) hx hb hts inq_X12_init_c12 tyX12 tyX12_ok nmX12 hown hK hP_1048 hD_1049 hS_1047 0 rfl rfl 155 (by decide) (hts (.fieldLink RX12 324 "DiskEvidenceModel" "momentFile" "[I") (List.mem_of_getElem? (i := 114) rfl)) (fun _ h9 => h9) rfl hin rfl (by decide +kernel) rfl rfl (by rw [hfl_284]; decide) dX12_init_1345 (fun H_1050 locs_1050 hP_1050 hD_1050 hS_1050 => ?_)
  clear hP_1048 hD_1049 hS_1047
  have hP_1051 : va_P (dC, dI) vwCl [(h0, .inr (12, (fs_284.set 155 (.ref q285)))), (q1, .inl (cI, 4000, (.inl (fun _ => 0)))), (q3, .inl (cI, 6, (.inl (fun _ => 0)))), (q5, .inl (cI, 49152, (.inl (fun _ => 0)))), (q7, .inl (cZ, 768, (.inl (fun _ => 0)))), (q285, .inl (cI, 4000, (.inl (fun _ => 0))))] H_1050 := hP_1050
  clear hP_1050
  have hD_1052 : va_D A [(h0, .inr (12, (fs_284.set 155 (.ref q285)))), (q1, .inl (cI, 4000, (.inl (fun _ => 0)))), (q3, .inl (cI, 6, (.inl (fun _ => 0)))), (q5, .inl (cI, 49152, (.inl (fun _ => 0)))), (q7, .inl (cZ, 768, (.inl (fun _ => 0)))), (q285, .inl (cI, 4000, (.inl (fun _ => 0))))] := hD_1050
  clear hD_1050
  obtain ⟨fs_286, efs_286⟩ : ∃ y, y = (fs_284.set 155 (.ref q285)) := ⟨_, rfl⟩
  rw [← efs_286] at hP_1051 hD_1052
  have hfl_286 : fs_286.length = 172 := by rw [efs_286, List.length_set]; exact hfl_284
  clear hfl_284
  have hP_1053 := hP_1051.sub (ws' := [(h0, .inr (12, fs_286)), (q1, .inl (cI, 4000, (.inl (fun _ => 0)))), (q3, .inl (cI, 6, (.inl (fun _ => 0)))), (q5, .inl (cI, 49152, (.inl (fun _ => 0)))), (q7, .inl (cZ, 768, (.inl (fun _ => 0))))]) [0, 1, 2, 3, 4] rfl
  clear hP_1051
  have hD_1054 := hD_1052.sub (ws' := [(h0, .inr (12, fs_286)), (q1, .inl (cI, 4000, (.inl (fun _ => 0)))), (q3, .inl (cI, 6, (.inl (fun _ => 0)))), (q5, .inl (cI, 49152, (.inl (fun _ => 0)))), (q7, .inl (cZ, 768, (.inl (fun _ => 0))))]) [0, 1, 2, 3, 4] (by decide) rfl
  clear hD_1052
  refine lv_aload_n hx hb dX12_init_1348 rfl (lv_at hl 0 rfl) ?_
  refine lv_sipush (v := 4000) hx hb dX12_init_1349 (by decide) ?_
  refine nw_arr (atype := .int) (N' := 4000) (a0 := (4000, (.inl (fun _ => 0)))) hx hb (hts (.arrayClass .int) (List.mem_of_getElem? (i := 4) rfl)) rfl hK 0 (cI := cI) rfl hP_1053 hD_1054 hS_1050 hA (fun _ => rfl) (by decide) (by decide) (by decide) (Nat.le_of_ble_eq_true rfl) (Nat.le_of_ble_eq_true rfl) dX12_init_1352 (fun q287 H_1055 hP_1055 hD_1055 hS_1055 => ?_)
  clear hP_1053 hD_1054 hS_1050
  have hP_1056 : va_P (dC, dI) vwCl [(h0, .inr (12, fs_286)), (q1, .inl (cI, 4000, (.inl (fun _ => 0)))), (q3, .inl (cI, 6, (.inl (fun _ => 0)))), (q5, .inl (cI, 49152, (.inl (fun _ => 0)))), (q7, .inl (cZ, 768, (.inl (fun _ => 0)))), (q287, .inl (cI, 4000, (.inl (fun _ => 0))))] H_1055 := hP_1055
  clear hP_1055
  have hD_1057 : va_D A [(h0, .inr (12, fs_286)), (q1, .inl (cI, 4000, (.inl (fun _ => 0)))), (q3, .inl (cI, 6, (.inl (fun _ => 0)))), (q5, .inl (cI, 49152, (.inl (fun _ => 0)))), (q7, .inl (cZ, 768, (.inl (fun _ => 0)))), (q287, .inl (cI, 4000, (.inl (fun _ => 0))))] := hD_1055
  clear hD_1055
  refine W.widen (k := 103) (n := 736941) (by decide) (by decide) ?_
  refine va_putF (D := (dC, dI)) (ci := 12) (v := .ref q287) (ty := .array (.int)) (C := RX12) (T := TX12) (N := 172) hx hb hts inq_X12_init_c12 tyX12 tyX12_ok nmX12 hown hK hP_1056 hD_1057 hS_1055 0 rfl rfl 156 (by decide) (hts (.fieldLink RX12 327 "DiskEvidenceModel" "momentWhich" "[I") (List.mem_of_getElem? (i := 115) rfl)) (fun _ h9 => h9) rfl hin rfl (by decide +kernel) rfl rfl (by rw [hfl_286]; decide) dX12_init_1354 (fun H_1058 locs_1058 hP_1058 hD_1058 hS_1058 => ?_)
  clear hP_1056 hD_1057 hS_1055
  have hP_1059 : va_P (dC, dI) vwCl [(h0, .inr (12, (fs_286.set 156 (.ref q287)))), (q1, .inl (cI, 4000, (.inl (fun _ => 0)))), (q3, .inl (cI, 6, (.inl (fun _ => 0)))), (q5, .inl (cI, 49152, (.inl (fun _ => 0)))), (q7, .inl (cZ, 768, (.inl (fun _ => 0)))), (q287, .inl (cI, 4000, (.inl (fun _ => 0))))] H_1058 := hP_1058
  clear hP_1058
  have hD_1060 : va_D A [(h0, .inr (12, (fs_286.set 156 (.ref q287)))), (q1, .inl (cI, 4000, (.inl (fun _ => 0)))), (q3, .inl (cI, 6, (.inl (fun _ => 0)))), (q5, .inl (cI, 49152, (.inl (fun _ => 0)))), (q7, .inl (cZ, 768, (.inl (fun _ => 0)))), (q287, .inl (cI, 4000, (.inl (fun _ => 0))))] := hD_1058
  clear hD_1058
  obtain ⟨fs_288, efs_288⟩ : ∃ y, y = (fs_286.set 156 (.ref q287)) := ⟨_, rfl⟩
  rw [← efs_288] at hP_1059 hD_1060
  have hfl_288 : fs_288.length = 172 := by rw [efs_288, List.length_set]; exact hfl_286
  clear hfl_286
  have hP_1061 := hP_1059.sub (ws' := [(h0, .inr (12, fs_288)), (q1, .inl (cI, 4000, (.inl (fun _ => 0)))), (q3, .inl (cI, 6, (.inl (fun _ => 0)))), (q5, .inl (cI, 49152, (.inl (fun _ => 0)))), (q7, .inl (cZ, 768, (.inl (fun _ => 0))))]) [0, 1, 2, 3, 4] rfl
  clear hP_1059
  have hD_1062 := hD_1060.sub (ws' := [(h0, .inr (12, fs_288)), (q1, .inl (cI, 4000, (.inl (fun _ => 0)))), (q3, .inl (cI, 6, (.inl (fun _ => 0)))), (q5, .inl (cI, 49152, (.inl (fun _ => 0)))), (q7, .inl (cZ, 768, (.inl (fun _ => 0))))]) [0, 1, 2, 3, 4] (by decide) rfl
  clear hD_1060
  refine lv_aload_n hx hb dX12_init_1357 rfl (lv_at hl 0 rfl) ?_
  refine lv_sipush (v := 2700) hx hb dX12_init_1358 (by decide) ?_
  refine nw_arr (atype := .int) (N' := 2700) (a0 := (2700, (.inl (fun _ => 0)))) hx hb (hts (.arrayClass .int) (List.mem_of_getElem? (i := 4) rfl)) rfl hK 0 (cI := cI) rfl hP_1061 hD_1062 hS_1058 hA (fun _ => rfl) (by decide) (by decide) (by decide) (Nat.le_of_ble_eq_true rfl) (Nat.le_of_ble_eq_true rfl) dX12_init_1361 (fun q289 H_1063 hP_1063 hD_1063 hS_1063 => ?_)
  clear hP_1061 hD_1062 hS_1058
  have hP_1064 : va_P (dC, dI) vwCl [(h0, .inr (12, fs_288)), (q1, .inl (cI, 4000, (.inl (fun _ => 0)))), (q3, .inl (cI, 6, (.inl (fun _ => 0)))), (q5, .inl (cI, 49152, (.inl (fun _ => 0)))), (q7, .inl (cZ, 768, (.inl (fun _ => 0)))), (q289, .inl (cI, 2700, (.inl (fun _ => 0))))] H_1063 := hP_1063
  clear hP_1063
  have hD_1065 : va_D A [(h0, .inr (12, fs_288)), (q1, .inl (cI, 4000, (.inl (fun _ => 0)))), (q3, .inl (cI, 6, (.inl (fun _ => 0)))), (q5, .inl (cI, 49152, (.inl (fun _ => 0)))), (q7, .inl (cZ, 768, (.inl (fun _ => 0)))), (q289, .inl (cI, 2700, (.inl (fun _ => 0))))] := hD_1063
  clear hD_1063
  refine W.widen (k := 104) (n := 739641) (by decide) (by decide) ?_
  refine va_putF (D := (dC, dI)) (ci := 12) (v := .ref q289) (ty := .array (.int)) (C := RX12) (T := TX12) (N := 172) hx hb hts inq_X12_init_c12 tyX12 tyX12_ok nmX12 hown hK hP_1064 hD_1065 hS_1063 0 rfl rfl 158 (by decide) (hts (.fieldLink RX12 330 "DiskEvidenceModel" "doubtTree" "[I") (List.mem_of_getElem? (i := 116) rfl)) (fun _ h9 => h9) rfl hin rfl (by decide +kernel) rfl rfl (by rw [hfl_288]; decide) dX12_init_1363 (fun H_1066 locs_1066 hP_1066 hD_1066 hS_1066 => ?_)
  clear hP_1064 hD_1065 hS_1063
  have hP_1067 : va_P (dC, dI) vwCl [(h0, .inr (12, (fs_288.set 158 (.ref q289)))), (q1, .inl (cI, 4000, (.inl (fun _ => 0)))), (q3, .inl (cI, 6, (.inl (fun _ => 0)))), (q5, .inl (cI, 49152, (.inl (fun _ => 0)))), (q7, .inl (cZ, 768, (.inl (fun _ => 0)))), (q289, .inl (cI, 2700, (.inl (fun _ => 0))))] H_1066 := hP_1066
  clear hP_1066
  have hD_1068 : va_D A [(h0, .inr (12, (fs_288.set 158 (.ref q289)))), (q1, .inl (cI, 4000, (.inl (fun _ => 0)))), (q3, .inl (cI, 6, (.inl (fun _ => 0)))), (q5, .inl (cI, 49152, (.inl (fun _ => 0)))), (q7, .inl (cZ, 768, (.inl (fun _ => 0)))), (q289, .inl (cI, 2700, (.inl (fun _ => 0))))] := hD_1066
  clear hD_1066
  obtain ⟨fs_290, efs_290⟩ : ∃ y, y = (fs_288.set 158 (.ref q289)) := ⟨_, rfl⟩
  rw [← efs_290] at hP_1067 hD_1068
  have hfl_290 : fs_290.length = 172 := by rw [efs_290, List.length_set]; exact hfl_288
  clear hfl_288
  have hP_1069 := hP_1067.sub (ws' := [(h0, .inr (12, fs_290)), (q1, .inl (cI, 4000, (.inl (fun _ => 0)))), (q3, .inl (cI, 6, (.inl (fun _ => 0)))), (q5, .inl (cI, 49152, (.inl (fun _ => 0)))), (q7, .inl (cZ, 768, (.inl (fun _ => 0))))]) [0, 1, 2, 3, 4] rfl
  clear hP_1067
  have hD_1070 := hD_1068.sub (ws' := [(h0, .inr (12, fs_290)), (q1, .inl (cI, 4000, (.inl (fun _ => 0)))), (q3, .inl (cI, 6, (.inl (fun _ => 0)))), (q5, .inl (cI, 49152, (.inl (fun _ => 0)))), (q7, .inl (cZ, 768, (.inl (fun _ => 0))))]) [0, 1, 2, 3, 4] (by decide) rfl
  clear hD_1068
  refine lv_aload_n hx hb dX12_init_1366 rfl (lv_at hl 0 rfl) ?_
  refine lv_sipush (v := 2700) hx hb dX12_init_1367 (by decide) ?_
  refine nw_arr (atype := .int) (N' := 2700) (a0 := (2700, (.inl (fun _ => 0)))) hx hb (hts (.arrayClass .int) (List.mem_of_getElem? (i := 4) rfl)) rfl hK 0 (cI := cI) rfl hP_1069 hD_1070 hS_1066 hA (fun _ => rfl) (by decide) (by decide) (by decide) (Nat.le_of_ble_eq_true rfl) (Nat.le_of_ble_eq_true rfl) dX12_init_1370 (fun q291 H_1071 hP_1071 hD_1071 hS_1071 => ?_)
  clear hP_1069 hD_1070 hS_1066
  have hP_1072 : va_P (dC, dI) vwCl [(h0, .inr (12, fs_290)), (q1, .inl (cI, 4000, (.inl (fun _ => 0)))), (q3, .inl (cI, 6, (.inl (fun _ => 0)))), (q5, .inl (cI, 49152, (.inl (fun _ => 0)))), (q7, .inl (cZ, 768, (.inl (fun _ => 0)))), (q291, .inl (cI, 2700, (.inl (fun _ => 0))))] H_1071 := hP_1071
  clear hP_1071
  have hD_1073 : va_D A [(h0, .inr (12, fs_290)), (q1, .inl (cI, 4000, (.inl (fun _ => 0)))), (q3, .inl (cI, 6, (.inl (fun _ => 0)))), (q5, .inl (cI, 49152, (.inl (fun _ => 0)))), (q7, .inl (cZ, 768, (.inl (fun _ => 0)))), (q291, .inl (cI, 2700, (.inl (fun _ => 0))))] := hD_1071
  clear hD_1071
  refine W.widen (k := 105) (n := 742341) (by decide) (by decide) ?_
  refine va_putF (D := (dC, dI)) (ci := 12) (v := .ref q291) (ty := .array (.int)) (C := RX12) (T := TX12) (N := 172) hx hb hts inq_X12_init_c12 tyX12 tyX12_ok nmX12 hown hK hP_1072 hD_1073 hS_1071 0 rfl rfl 159 (by decide) (hts (.fieldLink RX12 333 "DiskEvidenceModel" "doubtFile" "[I") (List.mem_of_getElem? (i := 117) rfl)) (fun _ h9 => h9) rfl hin rfl (by decide +kernel) rfl rfl (by rw [hfl_290]; decide) dX12_init_1372 (fun H_1074 locs_1074 hP_1074 hD_1074 hS_1074 => ?_)
  clear hP_1072 hD_1073 hS_1071
  have hP_1075 : va_P (dC, dI) vwCl [(h0, .inr (12, (fs_290.set 159 (.ref q291)))), (q1, .inl (cI, 4000, (.inl (fun _ => 0)))), (q3, .inl (cI, 6, (.inl (fun _ => 0)))), (q5, .inl (cI, 49152, (.inl (fun _ => 0)))), (q7, .inl (cZ, 768, (.inl (fun _ => 0)))), (q291, .inl (cI, 2700, (.inl (fun _ => 0))))] H_1074 := hP_1074
  clear hP_1074
  have hD_1076 : va_D A [(h0, .inr (12, (fs_290.set 159 (.ref q291)))), (q1, .inl (cI, 4000, (.inl (fun _ => 0)))), (q3, .inl (cI, 6, (.inl (fun _ => 0)))), (q5, .inl (cI, 49152, (.inl (fun _ => 0)))), (q7, .inl (cZ, 768, (.inl (fun _ => 0)))), (q291, .inl (cI, 2700, (.inl (fun _ => 0))))] := hD_1074
  clear hD_1074
  obtain ⟨fs_292, efs_292⟩ : ∃ y, y = (fs_290.set 159 (.ref q291)) := ⟨_, rfl⟩
  rw [← efs_292] at hP_1075 hD_1076
  have hfl_292 : fs_292.length = 172 := by rw [efs_292, List.length_set]; exact hfl_290
  clear hfl_290
  have hP_1077 := hP_1075.sub (ws' := [(h0, .inr (12, fs_292)), (q1, .inl (cI, 4000, (.inl (fun _ => 0)))), (q3, .inl (cI, 6, (.inl (fun _ => 0)))), (q5, .inl (cI, 49152, (.inl (fun _ => 0)))), (q7, .inl (cZ, 768, (.inl (fun _ => 0))))]) [0, 1, 2, 3, 4] rfl
  clear hP_1075
  have hD_1078 := hD_1076.sub (ws' := [(h0, .inr (12, fs_292)), (q1, .inl (cI, 4000, (.inl (fun _ => 0)))), (q3, .inl (cI, 6, (.inl (fun _ => 0)))), (q5, .inl (cI, 49152, (.inl (fun _ => 0)))), (q7, .inl (cZ, 768, (.inl (fun _ => 0))))]) [0, 1, 2, 3, 4] (by decide) rfl
  clear hD_1076
  refine lv_aload_n hx hb dX12_init_1375 rfl (lv_at hl 0 rfl) ?_
  refine lv_sipush (v := 2700) hx hb dX12_init_1376 (by decide) ?_
  refine nw_arr (atype := .int) (N' := 2700) (a0 := (2700, (.inl (fun _ => 0)))) hx hb (hts (.arrayClass .int) (List.mem_of_getElem? (i := 4) rfl)) rfl hK 0 (cI := cI) rfl hP_1077 hD_1078 hS_1074 hA (fun _ => rfl) (by decide) (by decide) (by decide) (Nat.le_of_ble_eq_true rfl) (Nat.le_of_ble_eq_true rfl) dX12_init_1379 (fun q293 H_1079 hP_1079 hD_1079 hS_1079 => ?_)
  clear hP_1077 hD_1078 hS_1074
  have hP_1080 : va_P (dC, dI) vwCl [(h0, .inr (12, fs_292)), (q1, .inl (cI, 4000, (.inl (fun _ => 0)))), (q3, .inl (cI, 6, (.inl (fun _ => 0)))), (q5, .inl (cI, 49152, (.inl (fun _ => 0)))), (q7, .inl (cZ, 768, (.inl (fun _ => 0)))), (q293, .inl (cI, 2700, (.inl (fun _ => 0))))] H_1079 := hP_1079
  clear hP_1079
  have hD_1081 : va_D A [(h0, .inr (12, fs_292)), (q1, .inl (cI, 4000, (.inl (fun _ => 0)))), (q3, .inl (cI, 6, (.inl (fun _ => 0)))), (q5, .inl (cI, 49152, (.inl (fun _ => 0)))), (q7, .inl (cZ, 768, (.inl (fun _ => 0)))), (q293, .inl (cI, 2700, (.inl (fun _ => 0))))] := hD_1079
  clear hD_1079
  refine W.widen (k := 106) (n := 745041) (by decide) (by decide) ?_
  refine va_putF (D := (dC, dI)) (ci := 12) (v := .ref q293) (ty := .array (.int)) (C := RX12) (T := TX12) (N := 172) hx hb hts inq_X12_init_c12 tyX12 tyX12_ok nmX12 hown hK hP_1080 hD_1081 hS_1079 0 rfl rfl 160 (by decide) (hts (.fieldLink RX12 336 "DiskEvidenceModel" "doubtWhich" "[I") (List.mem_of_getElem? (i := 118) rfl)) (fun _ h9 => h9) rfl hin rfl (by decide +kernel) rfl rfl (by rw [hfl_292]; decide) dX12_init_1381 (fun H_1082 locs_1082 hP_1082 hD_1082 hS_1082 => ?_)
  clear hP_1080 hD_1081 hS_1079
  have hP_1083 : va_P (dC, dI) vwCl [(h0, .inr (12, (fs_292.set 160 (.ref q293)))), (q1, .inl (cI, 4000, (.inl (fun _ => 0)))), (q3, .inl (cI, 6, (.inl (fun _ => 0)))), (q5, .inl (cI, 49152, (.inl (fun _ => 0)))), (q7, .inl (cZ, 768, (.inl (fun _ => 0)))), (q293, .inl (cI, 2700, (.inl (fun _ => 0))))] H_1082 := hP_1082
  clear hP_1082
  have hD_1084 : va_D A [(h0, .inr (12, (fs_292.set 160 (.ref q293)))), (q1, .inl (cI, 4000, (.inl (fun _ => 0)))), (q3, .inl (cI, 6, (.inl (fun _ => 0)))), (q5, .inl (cI, 49152, (.inl (fun _ => 0)))), (q7, .inl (cZ, 768, (.inl (fun _ => 0)))), (q293, .inl (cI, 2700, (.inl (fun _ => 0))))] := hD_1082
  clear hD_1082
  obtain ⟨fs_294, efs_294⟩ : ∃ y, y = (fs_292.set 160 (.ref q293)) := ⟨_, rfl⟩
  rw [← efs_294] at hP_1083 hD_1084
  have hfl_294 : fs_294.length = 172 := by rw [efs_294, List.length_set]; exact hfl_292
  clear hfl_292
  have hP_1085 := hP_1083.sub (ws' := [(h0, .inr (12, fs_294)), (q1, .inl (cI, 4000, (.inl (fun _ => 0)))), (q3, .inl (cI, 6, (.inl (fun _ => 0)))), (q5, .inl (cI, 49152, (.inl (fun _ => 0)))), (q7, .inl (cZ, 768, (.inl (fun _ => 0))))]) [0, 1, 2, 3, 4] rfl
  clear hP_1083
  have hD_1086 := hD_1084.sub (ws' := [(h0, .inr (12, fs_294)), (q1, .inl (cI, 4000, (.inl (fun _ => 0)))), (q3, .inl (cI, 6, (.inl (fun _ => 0)))), (q5, .inl (cI, 49152, (.inl (fun _ => 0)))), (q7, .inl (cZ, 768, (.inl (fun _ => 0))))]) [0, 1, 2, 3, 4] (by decide) rfl
  clear hD_1084
  refine lv_aload_n hx hb dX12_init_1384 rfl (lv_at hl 0 rfl) ?_
  refine lv_bipush (v := 40) hx hb dX12_init_1385 (by decide) ?_
  refine nw_arr (atype := .int) (N' := 40) (a0 := (40, (.inl (fun _ => 0)))) hx hb (hts (.arrayClass .int) (List.mem_of_getElem? (i := 4) rfl)) rfl hK 0 (cI := cI) rfl hP_1085 hD_1086 hS_1082 hA (fun _ => rfl) (by decide) (by decide) (by decide) (Nat.le_of_ble_eq_true rfl) (Nat.le_of_ble_eq_true rfl) dX12_init_1387 (fun q295 H_1087 hP_1087 hD_1087 hS_1087 => ?_)
  clear hP_1085 hD_1086 hS_1082
  have hP_1088 : va_P (dC, dI) vwCl [(h0, .inr (12, fs_294)), (q1, .inl (cI, 4000, (.inl (fun _ => 0)))), (q3, .inl (cI, 6, (.inl (fun _ => 0)))), (q5, .inl (cI, 49152, (.inl (fun _ => 0)))), (q7, .inl (cZ, 768, (.inl (fun _ => 0)))), (q295, .inl (cI, 40, (.inl (fun _ => 0))))] H_1087 := hP_1087
  clear hP_1087
  have hD_1089 : va_D A [(h0, .inr (12, fs_294)), (q1, .inl (cI, 4000, (.inl (fun _ => 0)))), (q3, .inl (cI, 6, (.inl (fun _ => 0)))), (q5, .inl (cI, 49152, (.inl (fun _ => 0)))), (q7, .inl (cZ, 768, (.inl (fun _ => 0)))), (q295, .inl (cI, 40, (.inl (fun _ => 0))))] := hD_1087
  clear hD_1087
  refine W.widen (k := 107) (n := 745081) (by decide) (by decide) ?_
  refine va_putF (D := (dC, dI)) (ci := 12) (v := .ref q295) (ty := .array (.int)) (C := RX12) (T := TX12) (N := 172) hx hb hts inq_X12_init_c12 tyX12 tyX12_ok nmX12 hown hK hP_1088 hD_1089 hS_1087 0 rfl rfl 162 (by decide) (hts (.fieldLink RX12 339 "DiskEvidenceModel" "claimTree" "[I") (List.mem_of_getElem? (i := 119) rfl)) (fun _ h9 => h9) rfl hin rfl (by decide +kernel) rfl rfl (by rw [hfl_294]; decide) dX12_init_1389 (fun H_1090 locs_1090 hP_1090 hD_1090 hS_1090 => ?_)
  clear hP_1088 hD_1089 hS_1087
  have hP_1091 : va_P (dC, dI) vwCl [(h0, .inr (12, (fs_294.set 162 (.ref q295)))), (q1, .inl (cI, 4000, (.inl (fun _ => 0)))), (q3, .inl (cI, 6, (.inl (fun _ => 0)))), (q5, .inl (cI, 49152, (.inl (fun _ => 0)))), (q7, .inl (cZ, 768, (.inl (fun _ => 0)))), (q295, .inl (cI, 40, (.inl (fun _ => 0))))] H_1090 := hP_1090
  clear hP_1090
  have hD_1092 : va_D A [(h0, .inr (12, (fs_294.set 162 (.ref q295)))), (q1, .inl (cI, 4000, (.inl (fun _ => 0)))), (q3, .inl (cI, 6, (.inl (fun _ => 0)))), (q5, .inl (cI, 49152, (.inl (fun _ => 0)))), (q7, .inl (cZ, 768, (.inl (fun _ => 0)))), (q295, .inl (cI, 40, (.inl (fun _ => 0))))] := hD_1090
  clear hD_1090
  obtain ⟨fs_296, efs_296⟩ : ∃ y, y = (fs_294.set 162 (.ref q295)) := ⟨_, rfl⟩
  rw [← efs_296] at hP_1091 hD_1092
  have hfl_296 : fs_296.length = 172 := by rw [efs_296, List.length_set]; exact hfl_294
  clear hfl_294
  have el_296 : fs_296 = [.int 0, .ref q1, .int 0, .int 0, .ref q3, .ref q5, .ref q7, .int 0, .ref q9, .ref q11, .ref q13, .ref q15, .ref q17, .ref q19, .ref q21, .int 1, .int 0, .ref q24, .ref q26, .int 0, .int 0, .ref q28, .ref q30, .ref q32, .ref q34, .ref q36, .int 0, .ref q38, .ref q40, .int 0, .int 0, .ref q42, .ref q44, .ref q46, .int 0, .ref q48, .ref q50, .ref q52, .ref q54, .int 0, .int 0, .int 0, .int 0, .int 0, .int 0, .int 0, .int 0, .int 0, .int 0, .int 0, .ref q56, .ref q58, .int 0, .int 0, .ref q60, .int 0, .int 0, .int 0, .int 0, .int 0, .ref q62, .ref q64, .ref q66, .ref q68, .ref q70, .ref q72, .ref q74, .ref q76, .ref q78, .ref q80, .ref q82, .ref q84, .ref q86, .ref q88, .ref q90, .ref q92, .ref q94, .ref q96, .ref q98, .ref q100, .ref q102, .ref q104, .ref q106, .ref q108, .ref q110, .ref q112, .ref q114, .ref q116, .ref q118, .ref q120, .ref q122, .int 0, .int 0, .int 0, .ref q124, .ref q126, .ref q128, .int 0, .ref q130, .ref q132, .ref q134, .ref q136, .int 0, .ref q138, .ref q140, .ref q142, .int 0, .int 0, .int 0, .int 0, .int 0, .ref q144, .ref q146, .ref q148, .ref q150, .ref q152, .ref q154, .ref q156, .ref q158, .ref q160, .int 0, .ref q162, .int 0, .ref q164, .int 0, .ref q166, .ref q168, .ref q170, .int 0, .int 0, .ref q172, .ref q174, .ref q176, .ref q244, .ref q257, .int 0, .int 0, .int 0, .ref q263, .int 0, .ref q265, .int 0, .ref q267, .ref q269, .ref q271, .ref q273, .int 0, .int 0, .ref q275, .int 0, .ref q277, .int 0, .ref q279, .ref q281, .ref q283, .ref q285, .ref q287, .int 0, .ref q289, .ref q291, .ref q293, .int 0, .ref q295, .null, .null, .null, .null, .int 0, .null, .null, .null, .null] := by rw [efs_296, efs_294, efs_292, efs_290, efs_288, efs_286, efs_284, efs_282, efs_280, efs_278, efs_276, efs_274, el_272]; rfl
  clear efs_274 efs_276 efs_278 efs_280 efs_282 efs_284 efs_286 efs_288 efs_290 efs_292 efs_294 efs_296 el_272
  have hP_1093 := hP_1091.sub (ws' := [(h0, .inr (12, fs_296)), (q1, .inl (cI, 4000, (.inl (fun _ => 0)))), (q3, .inl (cI, 6, (.inl (fun _ => 0)))), (q5, .inl (cI, 49152, (.inl (fun _ => 0)))), (q7, .inl (cZ, 768, (.inl (fun _ => 0))))]) [0, 1, 2, 3, 4] rfl
  clear hP_1091
  have hD_1094 := hD_1092.sub (ws' := [(h0, .inr (12, fs_296)), (q1, .inl (cI, 4000, (.inl (fun _ => 0)))), (q3, .inl (cI, 6, (.inl (fun _ => 0)))), (q5, .inl (cI, 49152, (.inl (fun _ => 0)))), (q7, .inl (cZ, 768, (.inl (fun _ => 0))))]) [0, 1, 2, 3, 4] (by decide) rfl
  clear hD_1092
  refine lv_aload_n hx hb dX12_init_1392 rfl (lv_at hl 0 rfl) ?_
  refine lv_bipush (v := 40) hx hb dX12_init_1393 (by decide) ?_
  refine nw_arr (atype := .int) (N' := 40) (a0 := (40, (.inl (fun _ => 0)))) hx hb (hts (.arrayClass .int) (List.mem_of_getElem? (i := 4) rfl)) rfl hK 0 (cI := cI) rfl hP_1093 hD_1094 hS_1090 hA (fun _ => rfl) (by decide) (by decide) (by decide) (Nat.le_of_ble_eq_true rfl) (Nat.le_of_ble_eq_true rfl) dX12_init_1395 (fun q297 H_1095 hP_1095 hD_1095 hS_1095 => ?_)
  clear hP_1093 hD_1094 hS_1090
  have hP_1096 : va_P (dC, dI) vwCl [(h0, .inr (12, fs_296)), (q1, .inl (cI, 4000, (.inl (fun _ => 0)))), (q3, .inl (cI, 6, (.inl (fun _ => 0)))), (q5, .inl (cI, 49152, (.inl (fun _ => 0)))), (q7, .inl (cZ, 768, (.inl (fun _ => 0)))), (q297, .inl (cI, 40, (.inl (fun _ => 0))))] H_1095 := hP_1095
  clear hP_1095
  have hD_1097 : va_D A [(h0, .inr (12, fs_296)), (q1, .inl (cI, 4000, (.inl (fun _ => 0)))), (q3, .inl (cI, 6, (.inl (fun _ => 0)))), (q5, .inl (cI, 49152, (.inl (fun _ => 0)))), (q7, .inl (cZ, 768, (.inl (fun _ => 0)))), (q297, .inl (cI, 40, (.inl (fun _ => 0))))] := hD_1095
  clear hD_1095
  refine W.widen (k := 108) (n := 745121) (by decide) (by decide) ?_
  refine va_putF (D := (dC, dI)) (ci := 12) (v := .ref q297) (ty := .array (.int)) (C := RX12) (T := TX12) (N := 172) hx hb hts inq_X12_init_c12 tyX12 tyX12_ok nmX12 hown hK hP_1096 hD_1097 hS_1095 0 rfl rfl 163 (by decide) (hts (.fieldLink RX12 342 "DiskEvidenceModel" "claimFile" "[I") (List.mem_of_getElem? (i := 120) rfl)) (fun _ h9 => h9) rfl hin rfl (by decide +kernel) rfl rfl (by rw [hfl_296]; decide) dX12_init_1397 (fun H_1098 locs_1098 hP_1098 hD_1098 hS_1098 => ?_)
  clear hP_1096 hD_1097 hS_1095
  have hP_1099 : va_P (dC, dI) vwCl [(h0, .inr (12, (fs_296.set 163 (.ref q297)))), (q1, .inl (cI, 4000, (.inl (fun _ => 0)))), (q3, .inl (cI, 6, (.inl (fun _ => 0)))), (q5, .inl (cI, 49152, (.inl (fun _ => 0)))), (q7, .inl (cZ, 768, (.inl (fun _ => 0)))), (q297, .inl (cI, 40, (.inl (fun _ => 0))))] H_1098 := hP_1098
  clear hP_1098
  have hD_1100 : va_D A [(h0, .inr (12, (fs_296.set 163 (.ref q297)))), (q1, .inl (cI, 4000, (.inl (fun _ => 0)))), (q3, .inl (cI, 6, (.inl (fun _ => 0)))), (q5, .inl (cI, 49152, (.inl (fun _ => 0)))), (q7, .inl (cZ, 768, (.inl (fun _ => 0)))), (q297, .inl (cI, 40, (.inl (fun _ => 0))))] := hD_1098
  clear hD_1098
  obtain ⟨fs_298, efs_298⟩ : ∃ y, y = (fs_296.set 163 (.ref q297)) := ⟨_, rfl⟩
  rw [← efs_298] at hP_1099 hD_1100
  have hfl_298 : fs_298.length = 172 := by rw [efs_298, List.length_set]; exact hfl_296
  clear hfl_296
  have hP_1101 := hP_1099.sub (ws' := [(h0, .inr (12, fs_298)), (q1, .inl (cI, 4000, (.inl (fun _ => 0)))), (q3, .inl (cI, 6, (.inl (fun _ => 0)))), (q5, .inl (cI, 49152, (.inl (fun _ => 0)))), (q7, .inl (cZ, 768, (.inl (fun _ => 0))))]) [0, 1, 2, 3, 4] rfl
  clear hP_1099
  have hD_1102 := hD_1100.sub (ws' := [(h0, .inr (12, fs_298)), (q1, .inl (cI, 4000, (.inl (fun _ => 0)))), (q3, .inl (cI, 6, (.inl (fun _ => 0)))), (q5, .inl (cI, 49152, (.inl (fun _ => 0)))), (q7, .inl (cZ, 768, (.inl (fun _ => 0))))]) [0, 1, 2, 3, 4] (by decide) rfl
  clear hD_1100
  refine lv_aload_n hx hb dX12_init_1400 rfl (lv_at hl 0 rfl) ?_
  refine lv_bipush (v := 40) hx hb dX12_init_1401 (by decide) ?_
  refine nw_arr (atype := .int) (N' := 40) (a0 := (40, (.inl (fun _ => 0)))) hx hb (hts (.arrayClass .int) (List.mem_of_getElem? (i := 4) rfl)) rfl hK 0 (cI := cI) rfl hP_1101 hD_1102 hS_1098 hA (fun _ => rfl) (by decide) (by decide) (by decide) (Nat.le_of_ble_eq_true rfl) (Nat.le_of_ble_eq_true rfl) dX12_init_1403 (fun q299 H_1103 hP_1103 hD_1103 hS_1103 => ?_)
  clear hP_1101 hD_1102 hS_1098
  have hP_1104 : va_P (dC, dI) vwCl [(h0, .inr (12, fs_298)), (q1, .inl (cI, 4000, (.inl (fun _ => 0)))), (q3, .inl (cI, 6, (.inl (fun _ => 0)))), (q5, .inl (cI, 49152, (.inl (fun _ => 0)))), (q7, .inl (cZ, 768, (.inl (fun _ => 0)))), (q299, .inl (cI, 40, (.inl (fun _ => 0))))] H_1103 := hP_1103
  clear hP_1103
  have hD_1105 : va_D A [(h0, .inr (12, fs_298)), (q1, .inl (cI, 4000, (.inl (fun _ => 0)))), (q3, .inl (cI, 6, (.inl (fun _ => 0)))), (q5, .inl (cI, 49152, (.inl (fun _ => 0)))), (q7, .inl (cZ, 768, (.inl (fun _ => 0)))), (q299, .inl (cI, 40, (.inl (fun _ => 0))))] := hD_1103
  clear hD_1103
  refine W.widen (k := 109) (n := 745161) (by decide) (by decide) ?_
  refine va_putF (D := (dC, dI)) (ci := 12) (v := .ref q299) (ty := .array (.int)) (C := RX12) (T := TX12) (N := 172) hx hb hts inq_X12_init_c12 tyX12 tyX12_ok nmX12 hown hK hP_1104 hD_1105 hS_1103 0 rfl rfl 164 (by decide) (hts (.fieldLink RX12 345 "DiskEvidenceModel" "claimKind" "[I") (List.mem_of_getElem? (i := 121) rfl)) (fun _ h9 => h9) rfl hin rfl (by decide +kernel) rfl rfl (by rw [hfl_298]; decide) dX12_init_1405 (fun H_1106 locs_1106 hP_1106 hD_1106 hS_1106 => ?_)
  clear hP_1104 hD_1105 hS_1103
  have hP_1107 : va_P (dC, dI) vwCl [(h0, .inr (12, (fs_298.set 164 (.ref q299)))), (q1, .inl (cI, 4000, (.inl (fun _ => 0)))), (q3, .inl (cI, 6, (.inl (fun _ => 0)))), (q5, .inl (cI, 49152, (.inl (fun _ => 0)))), (q7, .inl (cZ, 768, (.inl (fun _ => 0)))), (q299, .inl (cI, 40, (.inl (fun _ => 0))))] H_1106 := hP_1106
  clear hP_1106
  have hD_1108 : va_D A [(h0, .inr (12, (fs_298.set 164 (.ref q299)))), (q1, .inl (cI, 4000, (.inl (fun _ => 0)))), (q3, .inl (cI, 6, (.inl (fun _ => 0)))), (q5, .inl (cI, 49152, (.inl (fun _ => 0)))), (q7, .inl (cZ, 768, (.inl (fun _ => 0)))), (q299, .inl (cI, 40, (.inl (fun _ => 0))))] := hD_1106
  clear hD_1106
  obtain ⟨fs_300, efs_300⟩ : ∃ y, y = (fs_298.set 164 (.ref q299)) := ⟨_, rfl⟩
  rw [← efs_300] at hP_1107 hD_1108
  have hfl_300 : fs_300.length = 172 := by rw [efs_300, List.length_set]; exact hfl_298
  clear hfl_298
  have hP_1109 := hP_1107.sub (ws' := [(h0, .inr (12, fs_300)), (q1, .inl (cI, 4000, (.inl (fun _ => 0)))), (q3, .inl (cI, 6, (.inl (fun _ => 0)))), (q5, .inl (cI, 49152, (.inl (fun _ => 0)))), (q7, .inl (cZ, 768, (.inl (fun _ => 0))))]) [0, 1, 2, 3, 4] rfl
  clear hP_1107
  have hD_1110 := hD_1108.sub (ws' := [(h0, .inr (12, fs_300)), (q1, .inl (cI, 4000, (.inl (fun _ => 0)))), (q3, .inl (cI, 6, (.inl (fun _ => 0)))), (q5, .inl (cI, 49152, (.inl (fun _ => 0)))), (q7, .inl (cZ, 768, (.inl (fun _ => 0))))]) [0, 1, 2, 3, 4] (by decide) rfl
  clear hD_1108
  refine lv_aload_n hx hb dX12_init_1408 rfl (lv_at hl 0 rfl) ?_
  refine lv_bipush (v := 40) hx hb dX12_init_1409 (by decide) ?_
  refine nw_arr (atype := .int) (N' := 40) (a0 := (40, (.inl (fun _ => 0)))) hx hb (hts (.arrayClass .int) (List.mem_of_getElem? (i := 4) rfl)) rfl hK 0 (cI := cI) rfl hP_1109 hD_1110 hS_1106 hA (fun _ => rfl) (by decide) (by decide) (by decide) (Nat.le_of_ble_eq_true rfl) (Nat.le_of_ble_eq_true rfl) dX12_init_1411 (fun q301 H_1111 hP_1111 hD_1111 hS_1111 => ?_)
  clear hP_1109 hD_1110 hS_1106
  have hP_1112 : va_P (dC, dI) vwCl [(h0, .inr (12, fs_300)), (q1, .inl (cI, 4000, (.inl (fun _ => 0)))), (q3, .inl (cI, 6, (.inl (fun _ => 0)))), (q5, .inl (cI, 49152, (.inl (fun _ => 0)))), (q7, .inl (cZ, 768, (.inl (fun _ => 0)))), (q301, .inl (cI, 40, (.inl (fun _ => 0))))] H_1111 := hP_1111
  clear hP_1111
  have hD_1113 : va_D A [(h0, .inr (12, fs_300)), (q1, .inl (cI, 4000, (.inl (fun _ => 0)))), (q3, .inl (cI, 6, (.inl (fun _ => 0)))), (q5, .inl (cI, 49152, (.inl (fun _ => 0)))), (q7, .inl (cZ, 768, (.inl (fun _ => 0)))), (q301, .inl (cI, 40, (.inl (fun _ => 0))))] := hD_1111
  clear hD_1111
  refine W.widen (k := 110) (n := 745201) (by decide) (by decide) ?_
  refine va_putF (D := (dC, dI)) (ci := 12) (v := .ref q301) (ty := .array (.int)) (C := RX12) (T := TX12) (N := 172) hx hb hts inq_X12_init_c12 tyX12 tyX12_ok nmX12 hown hK hP_1112 hD_1113 hS_1111 0 rfl rfl 165 (by decide) (hts (.fieldLink RX12 348 "DiskEvidenceModel" "claimA" "[I") (List.mem_of_getElem? (i := 122) rfl)) (fun _ h9 => h9) rfl hin rfl (by decide +kernel) rfl rfl (by rw [hfl_300]; decide) dX12_init_1413 (fun H_1114 locs_1114 hP_1114 hD_1114 hS_1114 => ?_)
  clear hP_1112 hD_1113 hS_1111
  have hP_1115 : va_P (dC, dI) vwCl [(h0, .inr (12, (fs_300.set 165 (.ref q301)))), (q1, .inl (cI, 4000, (.inl (fun _ => 0)))), (q3, .inl (cI, 6, (.inl (fun _ => 0)))), (q5, .inl (cI, 49152, (.inl (fun _ => 0)))), (q7, .inl (cZ, 768, (.inl (fun _ => 0)))), (q301, .inl (cI, 40, (.inl (fun _ => 0))))] H_1114 := hP_1114
  clear hP_1114
  have hD_1116 : va_D A [(h0, .inr (12, (fs_300.set 165 (.ref q301)))), (q1, .inl (cI, 4000, (.inl (fun _ => 0)))), (q3, .inl (cI, 6, (.inl (fun _ => 0)))), (q5, .inl (cI, 49152, (.inl (fun _ => 0)))), (q7, .inl (cZ, 768, (.inl (fun _ => 0)))), (q301, .inl (cI, 40, (.inl (fun _ => 0))))] := hD_1114
  clear hD_1114
  obtain ⟨fs_302, efs_302⟩ : ∃ y, y = (fs_300.set 165 (.ref q301)) := ⟨_, rfl⟩
  rw [← efs_302] at hP_1115 hD_1116
  have hfl_302 : fs_302.length = 172 := by rw [efs_302, List.length_set]; exact hfl_300
  clear hfl_300
  have hP_1117 := hP_1115.sub (ws' := [(h0, .inr (12, fs_302)), (q1, .inl (cI, 4000, (.inl (fun _ => 0)))), (q3, .inl (cI, 6, (.inl (fun _ => 0)))), (q5, .inl (cI, 49152, (.inl (fun _ => 0)))), (q7, .inl (cZ, 768, (.inl (fun _ => 0))))]) [0, 1, 2, 3, 4] rfl
  clear hP_1115
  have hD_1118 := hD_1116.sub (ws' := [(h0, .inr (12, fs_302)), (q1, .inl (cI, 4000, (.inl (fun _ => 0)))), (q3, .inl (cI, 6, (.inl (fun _ => 0)))), (q5, .inl (cI, 49152, (.inl (fun _ => 0)))), (q7, .inl (cZ, 768, (.inl (fun _ => 0))))]) [0, 1, 2, 3, 4] (by decide) rfl
  clear hD_1116
  refine lv_aload_n hx hb dX12_init_1416 rfl (lv_at hl 0 rfl) ?_
  refine lv_bipush (v := 40) hx hb dX12_init_1417 (by decide) ?_
  refine nw_arr (atype := .int) (N' := 40) (a0 := (40, (.inl (fun _ => 0)))) hx hb (hts (.arrayClass .int) (List.mem_of_getElem? (i := 4) rfl)) rfl hK 0 (cI := cI) rfl hP_1117 hD_1118 hS_1114 hA (fun _ => rfl) (by decide) (by decide) (by decide) (Nat.le_of_ble_eq_true rfl) (Nat.le_of_ble_eq_true rfl) dX12_init_1419 (fun q303 H_1119 hP_1119 hD_1119 hS_1119 => ?_)
  clear hP_1117 hD_1118 hS_1114
  have hP_1120 : va_P (dC, dI) vwCl [(h0, .inr (12, fs_302)), (q1, .inl (cI, 4000, (.inl (fun _ => 0)))), (q3, .inl (cI, 6, (.inl (fun _ => 0)))), (q5, .inl (cI, 49152, (.inl (fun _ => 0)))), (q7, .inl (cZ, 768, (.inl (fun _ => 0)))), (q303, .inl (cI, 40, (.inl (fun _ => 0))))] H_1119 := hP_1119
  clear hP_1119
  have hD_1121 : va_D A [(h0, .inr (12, fs_302)), (q1, .inl (cI, 4000, (.inl (fun _ => 0)))), (q3, .inl (cI, 6, (.inl (fun _ => 0)))), (q5, .inl (cI, 49152, (.inl (fun _ => 0)))), (q7, .inl (cZ, 768, (.inl (fun _ => 0)))), (q303, .inl (cI, 40, (.inl (fun _ => 0))))] := hD_1119
  clear hD_1119
  refine W.widen (k := 111) (n := 745241) (by decide) (by decide) ?_
  refine va_putF (D := (dC, dI)) (ci := 12) (v := .ref q303) (ty := .array (.int)) (C := RX12) (T := TX12) (N := 172) hx hb hts inq_X12_init_c12 tyX12 tyX12_ok nmX12 hown hK hP_1120 hD_1121 hS_1119 0 rfl rfl 166 (by decide) (hts (.fieldLink RX12 351 "DiskEvidenceModel" "claimGrade" "[I") (List.mem_of_getElem? (i := 123) rfl)) (fun _ h9 => h9) rfl hin rfl (by decide +kernel) rfl rfl (by rw [hfl_302]; decide) dX12_init_1421 (fun H_1122 locs_1122 hP_1122 hD_1122 hS_1122 => ?_)
  clear hP_1120 hD_1121 hS_1119
  have hP_1123 : va_P (dC, dI) vwCl [(h0, .inr (12, (fs_302.set 166 (.ref q303)))), (q1, .inl (cI, 4000, (.inl (fun _ => 0)))), (q3, .inl (cI, 6, (.inl (fun _ => 0)))), (q5, .inl (cI, 49152, (.inl (fun _ => 0)))), (q7, .inl (cZ, 768, (.inl (fun _ => 0)))), (q303, .inl (cI, 40, (.inl (fun _ => 0))))] H_1122 := hP_1122
  clear hP_1122
  have hD_1124 : va_D A [(h0, .inr (12, (fs_302.set 166 (.ref q303)))), (q1, .inl (cI, 4000, (.inl (fun _ => 0)))), (q3, .inl (cI, 6, (.inl (fun _ => 0)))), (q5, .inl (cI, 49152, (.inl (fun _ => 0)))), (q7, .inl (cZ, 768, (.inl (fun _ => 0)))), (q303, .inl (cI, 40, (.inl (fun _ => 0))))] := hD_1122
  clear hD_1122
  obtain ⟨fs_304, efs_304⟩ : ∃ y, y = (fs_302.set 166 (.ref q303)) := ⟨_, rfl⟩
  rw [← efs_304] at hP_1123 hD_1124
  have hfl_304 : fs_304.length = 172 := by rw [efs_304, List.length_set]; exact hfl_302
  clear hfl_302
  have hP_1125 := hP_1123.sub (ws' := [(h0, .inr (12, fs_304)), (q1, .inl (cI, 4000, (.inl (fun _ => 0)))), (q3, .inl (cI, 6, (.inl (fun _ => 0)))), (q5, .inl (cI, 49152, (.inl (fun _ => 0)))), (q7, .inl (cZ, 768, (.inl (fun _ => 0))))]) [0, 1, 2, 3, 4] rfl
  clear hP_1123
  have hD_1126 := hD_1124.sub (ws' := [(h0, .inr (12, fs_304)), (q1, .inl (cI, 4000, (.inl (fun _ => 0)))), (q3, .inl (cI, 6, (.inl (fun _ => 0)))), (q5, .inl (cI, 49152, (.inl (fun _ => 0)))), (q7, .inl (cZ, 768, (.inl (fun _ => 0))))]) [0, 1, 2, 3, 4] (by decide) rfl
  clear hD_1124
  refine lv_aload_n hx hb dX12_init_1424 rfl (lv_at hl 0 rfl) ?_
  refine lv_bipush (v := 100) hx hb dX12_init_1425 (by decide) ?_
  refine nw_arr (atype := .int) (N' := 100) (a0 := (100, (.inl (fun _ => 0)))) hx hb (hts (.arrayClass .int) (List.mem_of_getElem? (i := 4) rfl)) rfl hK 0 (cI := cI) rfl hP_1125 hD_1126 hS_1122 hA (fun _ => rfl) (by decide) (by decide) (by decide) (Nat.le_of_ble_eq_true rfl) (Nat.le_of_ble_eq_true rfl) dX12_init_1427 (fun q305 H_1127 hP_1127 hD_1127 hS_1127 => ?_)
  clear hP_1125 hD_1126 hS_1122
  have hP_1128 : va_P (dC, dI) vwCl [(h0, .inr (12, fs_304)), (q1, .inl (cI, 4000, (.inl (fun _ => 0)))), (q3, .inl (cI, 6, (.inl (fun _ => 0)))), (q5, .inl (cI, 49152, (.inl (fun _ => 0)))), (q7, .inl (cZ, 768, (.inl (fun _ => 0)))), (q305, .inl (cI, 100, (.inl (fun _ => 0))))] H_1127 := hP_1127
  clear hP_1127
  have hD_1129 : va_D A [(h0, .inr (12, fs_304)), (q1, .inl (cI, 4000, (.inl (fun _ => 0)))), (q3, .inl (cI, 6, (.inl (fun _ => 0)))), (q5, .inl (cI, 49152, (.inl (fun _ => 0)))), (q7, .inl (cZ, 768, (.inl (fun _ => 0)))), (q305, .inl (cI, 100, (.inl (fun _ => 0))))] := hD_1127
  clear hD_1127
  refine W.widen (k := 112) (n := 745341) (by decide) (by decide) ?_
  refine va_putF (D := (dC, dI)) (ci := 12) (v := .ref q305) (ty := .array (.int)) (C := RX12) (T := TX12) (N := 172) hx hb hts inq_X12_init_c12 tyX12 tyX12_ok nmX12 hown hK hP_1128 hD_1129 hS_1127 0 rfl rfl 168 (by decide) (hts (.fieldLink RX12 354 "DiskEvidenceModel" "actWho" "[I") (List.mem_of_getElem? (i := 124) rfl)) (fun _ h9 => h9) rfl hin rfl (by decide +kernel) rfl rfl (by rw [hfl_304]; decide) dX12_init_1429 (fun H_1130 locs_1130 hP_1130 hD_1130 hS_1130 => ?_)
  clear hP_1128 hD_1129 hS_1127
  have hP_1131 : va_P (dC, dI) vwCl [(h0, .inr (12, (fs_304.set 168 (.ref q305)))), (q1, .inl (cI, 4000, (.inl (fun _ => 0)))), (q3, .inl (cI, 6, (.inl (fun _ => 0)))), (q5, .inl (cI, 49152, (.inl (fun _ => 0)))), (q7, .inl (cZ, 768, (.inl (fun _ => 0)))), (q305, .inl (cI, 100, (.inl (fun _ => 0))))] H_1130 := hP_1130
  clear hP_1130
  have hD_1132 : va_D A [(h0, .inr (12, (fs_304.set 168 (.ref q305)))), (q1, .inl (cI, 4000, (.inl (fun _ => 0)))), (q3, .inl (cI, 6, (.inl (fun _ => 0)))), (q5, .inl (cI, 49152, (.inl (fun _ => 0)))), (q7, .inl (cZ, 768, (.inl (fun _ => 0)))), (q305, .inl (cI, 100, (.inl (fun _ => 0))))] := hD_1130
  clear hD_1130
  obtain ⟨fs_306, efs_306⟩ : ∃ y, y = (fs_304.set 168 (.ref q305)) := ⟨_, rfl⟩
  rw [← efs_306] at hP_1131 hD_1132
  have hfl_306 : fs_306.length = 172 := by rw [efs_306, List.length_set]; exact hfl_304
  clear hfl_304
  refine lv_aload_n hx hb dX12_init_1432 rfl (lv_at hl 0 rfl) ?_
  refine lv_bipush (v := 100) hx hb dX12_init_1433 (by decide) ?_
  refine nw_arr (atype := .int) (N' := 100) (a0 := (100, (.inl (fun _ => 0)))) hx hb (hts (.arrayClass .int) (List.mem_of_getElem? (i := 4) rfl)) rfl hK 0 (cI := cI) rfl hP_1131 hD_1132 hS_1130 hA (fun _ => rfl) (by decide) (by decide) (by decide) (Nat.le_of_ble_eq_true rfl) (Nat.le_of_ble_eq_true rfl) dX12_init_1435 (fun q307 H_1133 hP_1133 hD_1133 hS_1133 => ?_)
  clear hP_1131 hD_1132 hS_1130
  have hP_1134 : va_P (dC, dI) vwCl [(h0, .inr (12, fs_306)), (q1, .inl (cI, 4000, (.inl (fun _ => 0)))), (q3, .inl (cI, 6, (.inl (fun _ => 0)))), (q5, .inl (cI, 49152, (.inl (fun _ => 0)))), (q7, .inl (cZ, 768, (.inl (fun _ => 0)))), (q305, .inl (cI, 100, (.inl (fun _ => 0)))), (q307, .inl (cI, 100, (.inl (fun _ => 0))))] H_1133 := hP_1133
  clear hP_1133
  have hD_1135 : va_D A [(h0, .inr (12, fs_306)), (q1, .inl (cI, 4000, (.inl (fun _ => 0)))), (q3, .inl (cI, 6, (.inl (fun _ => 0)))), (q5, .inl (cI, 49152, (.inl (fun _ => 0)))), (q7, .inl (cZ, 768, (.inl (fun _ => 0)))), (q305, .inl (cI, 100, (.inl (fun _ => 0)))), (q307, .inl (cI, 100, (.inl (fun _ => 0))))] := hD_1133
  clear hD_1133
  refine W.widen (k := 113) (n := 745441) (by decide) (by decide) ?_
  refine va_putF (D := (dC, dI)) (ci := 12) (v := .ref q307) (ty := .array (.int)) (C := RX12) (T := TX12) (N := 172) hx hb hts inq_X12_init_c12 tyX12 tyX12_ok nmX12 hown hK hP_1134 hD_1135 hS_1133 0 rfl rfl 169 (by decide) (hts (.fieldLink RX12 357 "DiskEvidenceModel" "actWhat" "[I") (List.mem_of_getElem? (i := 125) rfl)) (fun _ h9 => h9) rfl hin rfl (by decide +kernel) rfl rfl (by rw [hfl_306]; decide) dX12_init_1437 (fun H_1136 locs_1136 hP_1136 hD_1136 hS_1136 => ?_)
  clear hP_1134 hD_1135 hS_1133
  have hP_1137 : va_P (dC, dI) vwCl [(h0, .inr (12, (fs_306.set 169 (.ref q307)))), (q1, .inl (cI, 4000, (.inl (fun _ => 0)))), (q3, .inl (cI, 6, (.inl (fun _ => 0)))), (q5, .inl (cI, 49152, (.inl (fun _ => 0)))), (q7, .inl (cZ, 768, (.inl (fun _ => 0)))), (q305, .inl (cI, 100, (.inl (fun _ => 0)))), (q307, .inl (cI, 100, (.inl (fun _ => 0))))] H_1136 := hP_1136
  clear hP_1136
  have hD_1138 : va_D A [(h0, .inr (12, (fs_306.set 169 (.ref q307)))), (q1, .inl (cI, 4000, (.inl (fun _ => 0)))), (q3, .inl (cI, 6, (.inl (fun _ => 0)))), (q5, .inl (cI, 49152, (.inl (fun _ => 0)))), (q7, .inl (cZ, 768, (.inl (fun _ => 0)))), (q305, .inl (cI, 100, (.inl (fun _ => 0)))), (q307, .inl (cI, 100, (.inl (fun _ => 0))))] := hD_1136
  clear hD_1136
  obtain ⟨fs_308, efs_308⟩ : ∃ y, y = (fs_306.set 169 (.ref q307)) := ⟨_, rfl⟩
  rw [← efs_308] at hP_1137 hD_1138
  have hfl_308 : fs_308.length = 172 := by rw [efs_308, List.length_set]; exact hfl_306
  clear hfl_306
  refine lv_aload_n hx hb dX12_init_1440 rfl (lv_at hl 0 rfl) ?_
  refine lv_bipush (v := 100) hx hb dX12_init_1441 (by decide) ?_
  refine nw_arr (atype := .int) (N' := 100) (a0 := (100, (.inl (fun _ => 0)))) hx hb (hts (.arrayClass .int) (List.mem_of_getElem? (i := 4) rfl)) rfl hK 0 (cI := cI) rfl hP_1137 hD_1138 hS_1136 hA (fun _ => rfl) (by decide) (by decide) (by decide) (Nat.le_of_ble_eq_true rfl) (Nat.le_of_ble_eq_true rfl) dX12_init_1443 (fun q309 H_1139 hP_1139 hD_1139 hS_1139 => ?_)
  clear hP_1137 hD_1138 hS_1136
  have hP_1140 : va_P (dC, dI) vwCl [(h0, .inr (12, fs_308)), (q1, .inl (cI, 4000, (.inl (fun _ => 0)))), (q3, .inl (cI, 6, (.inl (fun _ => 0)))), (q5, .inl (cI, 49152, (.inl (fun _ => 0)))), (q7, .inl (cZ, 768, (.inl (fun _ => 0)))), (q305, .inl (cI, 100, (.inl (fun _ => 0)))), (q307, .inl (cI, 100, (.inl (fun _ => 0)))), (q309, .inl (cI, 100, (.inl (fun _ => 0))))] H_1139 := hP_1139
  clear hP_1139
  have hD_1141 : va_D A [(h0, .inr (12, fs_308)), (q1, .inl (cI, 4000, (.inl (fun _ => 0)))), (q3, .inl (cI, 6, (.inl (fun _ => 0)))), (q5, .inl (cI, 49152, (.inl (fun _ => 0)))), (q7, .inl (cZ, 768, (.inl (fun _ => 0)))), (q305, .inl (cI, 100, (.inl (fun _ => 0)))), (q307, .inl (cI, 100, (.inl (fun _ => 0)))), (q309, .inl (cI, 100, (.inl (fun _ => 0))))] := hD_1139
  clear hD_1139
  refine W.widen (k := 114) (n := 745541) (by decide) (by decide) ?_
  refine va_putF (D := (dC, dI)) (ci := 12) (v := .ref q309) (ty := .array (.int)) (C := RX12) (T := TX12) (N := 172) hx hb hts inq_X12_init_c12 tyX12 tyX12_ok nmX12 hown hK hP_1140 hD_1141 hS_1139 0 rfl rfl 170 (by decide) (hts (.fieldLink RX12 360 "DiskEvidenceModel" "actAt" "[I") (List.mem_of_getElem? (i := 126) rfl)) (fun _ h9 => h9) rfl hin rfl (by decide +kernel) rfl rfl (by rw [hfl_308]; decide) dX12_init_1445 (fun H_1142 locs_1142 hP_1142 hD_1142 hS_1142 => ?_)
  clear hP_1140 hD_1141 hS_1139
  have hP_1143 : va_P (dC, dI) vwCl [(h0, .inr (12, (fs_308.set 170 (.ref q309)))), (q1, .inl (cI, 4000, (.inl (fun _ => 0)))), (q3, .inl (cI, 6, (.inl (fun _ => 0)))), (q5, .inl (cI, 49152, (.inl (fun _ => 0)))), (q7, .inl (cZ, 768, (.inl (fun _ => 0)))), (q305, .inl (cI, 100, (.inl (fun _ => 0)))), (q307, .inl (cI, 100, (.inl (fun _ => 0)))), (q309, .inl (cI, 100, (.inl (fun _ => 0))))] H_1142 := hP_1142
  clear hP_1142
  have hD_1144 : va_D A [(h0, .inr (12, (fs_308.set 170 (.ref q309)))), (q1, .inl (cI, 4000, (.inl (fun _ => 0)))), (q3, .inl (cI, 6, (.inl (fun _ => 0)))), (q5, .inl (cI, 49152, (.inl (fun _ => 0)))), (q7, .inl (cZ, 768, (.inl (fun _ => 0)))), (q305, .inl (cI, 100, (.inl (fun _ => 0)))), (q307, .inl (cI, 100, (.inl (fun _ => 0)))), (q309, .inl (cI, 100, (.inl (fun _ => 0))))] := hD_1142
  clear hD_1142
  obtain ⟨fs_310, efs_310⟩ : ∃ y, y = (fs_308.set 170 (.ref q309)) := ⟨_, rfl⟩
  rw [← efs_310] at hP_1143 hD_1144
  have hfl_310 : fs_310.length = 172 := by rw [efs_310, List.length_set]; exact hfl_308
  clear hfl_308
  refine lv_aload_n hx hb dX12_init_1448 rfl (lv_at hl 0 rfl) ?_
  refine lv_bipush (v := 100) hx hb dX12_init_1449 (by decide) ?_
  refine nw_arr (atype := .long) (N' := 100) (a0 := (100, (.inr (.inl (fun _ => 0))))) hx hb (hts (.arrayClass .long) (List.mem_of_getElem? (i := 57) rfl)) rfl hK 3 (cI := cJ) rfl hP_1143 hD_1144 hS_1142 hA (fun _ => rfl) (by decide) (by decide) (by decide) (Nat.le_of_ble_eq_true rfl) (Nat.le_of_ble_eq_true rfl) dX12_init_1451 (fun q311 H_1145 hP_1145 hD_1145 hS_1145 => ?_)
  clear hP_1143 hD_1144 hS_1142
  have hP_1146 : va_P (dC, dI) vwCl [(h0, .inr (12, fs_310)), (q1, .inl (cI, 4000, (.inl (fun _ => 0)))), (q3, .inl (cI, 6, (.inl (fun _ => 0)))), (q5, .inl (cI, 49152, (.inl (fun _ => 0)))), (q7, .inl (cZ, 768, (.inl (fun _ => 0)))), (q305, .inl (cI, 100, (.inl (fun _ => 0)))), (q307, .inl (cI, 100, (.inl (fun _ => 0)))), (q309, .inl (cI, 100, (.inl (fun _ => 0)))), (q311, .inl (cJ, 100, (.inr (.inl (fun _ => 0)))))] H_1145 := hP_1145
  clear hP_1145
  have hD_1147 : va_D A [(h0, .inr (12, fs_310)), (q1, .inl (cI, 4000, (.inl (fun _ => 0)))), (q3, .inl (cI, 6, (.inl (fun _ => 0)))), (q5, .inl (cI, 49152, (.inl (fun _ => 0)))), (q7, .inl (cZ, 768, (.inl (fun _ => 0)))), (q305, .inl (cI, 100, (.inl (fun _ => 0)))), (q307, .inl (cI, 100, (.inl (fun _ => 0)))), (q309, .inl (cI, 100, (.inl (fun _ => 0)))), (q311, .inl (cJ, 100, (.inr (.inl (fun _ => 0)))))] := hD_1145
  clear hD_1145
  refine W.widen (k := 115) (n := 745641) (by decide) (by decide) ?_
  refine va_putF (D := (dC, dI)) (ci := 12) (v := .ref q311) (ty := .array (.long)) (C := RX12) (T := TX12) (N := 172) hx hb hts inq_X12_init_c12 tyX12 tyX12_ok nmX12 hown hK hP_1146 hD_1147 hS_1145 0 rfl rfl 171 (by decide) (hts (.fieldLink RX12 363 "DiskEvidenceModel" "actLink" "[J") (List.mem_of_getElem? (i := 127) rfl)) (fun _ h9 => h9) rfl hin rfl (by decide +kernel) rfl rfl (by rw [hfl_310]; decide) dX12_init_1453 (fun H_1148 locs_1148 hP_1148 hD_1148 hS_1148 => ?_)
  clear hP_1146 hD_1147 hS_1145
  have hP_1149 : va_P (dC, dI) vwCl [(h0, .inr (12, (fs_310.set 171 (.ref q311)))), (q1, .inl (cI, 4000, (.inl (fun _ => 0)))), (q3, .inl (cI, 6, (.inl (fun _ => 0)))), (q5, .inl (cI, 49152, (.inl (fun _ => 0)))), (q7, .inl (cZ, 768, (.inl (fun _ => 0)))), (q305, .inl (cI, 100, (.inl (fun _ => 0)))), (q307, .inl (cI, 100, (.inl (fun _ => 0)))), (q309, .inl (cI, 100, (.inl (fun _ => 0)))), (q311, .inl (cJ, 100, (.inr (.inl (fun _ => 0)))))] H_1148 := hP_1148
  clear hP_1148
  have hD_1150 : va_D A [(h0, .inr (12, (fs_310.set 171 (.ref q311)))), (q1, .inl (cI, 4000, (.inl (fun _ => 0)))), (q3, .inl (cI, 6, (.inl (fun _ => 0)))), (q5, .inl (cI, 49152, (.inl (fun _ => 0)))), (q7, .inl (cZ, 768, (.inl (fun _ => 0)))), (q305, .inl (cI, 100, (.inl (fun _ => 0)))), (q307, .inl (cI, 100, (.inl (fun _ => 0)))), (q309, .inl (cI, 100, (.inl (fun _ => 0)))), (q311, .inl (cJ, 100, (.inr (.inl (fun _ => 0)))))] := hD_1148
  clear hD_1148
  obtain ⟨fs_312, efs_312⟩ : ∃ y, y = (fs_310.set 171 (.ref q311)) := ⟨_, rfl⟩
  rw [← efs_312] at hP_1149 hD_1150
  have hfl_312 : fs_312.length = 172 := by rw [efs_312, List.length_set]; exact hfl_310
  clear hfl_310
  refine lv_aload_n hx hb dX12_init_1456 rfl (lv_at hl 0 rfl) ?_
  refine lv_iconst (v := 0) hx hb dX12_init_1457 (by decide) ?_
  refine va_put (D := (dC, dI)) (ci := 12) (v := .int 0) (ty := .int) (C := RX12) (T := TX12) (N := 172) hx hb hts inq_X12_init_c12 tyX12 tyX12_ok nmX12 hown hK hP_1149 hD_1150 hS_1148 0 rfl rfl 167 (by decide) (hts (.fieldLink RX12 366 "DiskEvidenceModel" "acts" "I") (List.mem_of_getElem? (i := 128) rfl)) (fun _ h9 => h9) rfl (by decide +kernel) rfl rfl (by rw [hfl_312]; decide) dX12_init_1458 (fun H_1151 locs_1151 hP_1151 hD_1151 hS_1151 => ?_)
  clear hP_1149 hD_1150 hS_1148
  have hP_1152 : va_P (dC, dI) vwCl [(h0, .inr (12, (fs_312.set 167 (.int 0)))), (q1, .inl (cI, 4000, (.inl (fun _ => 0)))), (q3, .inl (cI, 6, (.inl (fun _ => 0)))), (q5, .inl (cI, 49152, (.inl (fun _ => 0)))), (q7, .inl (cZ, 768, (.inl (fun _ => 0)))), (q305, .inl (cI, 100, (.inl (fun _ => 0)))), (q307, .inl (cI, 100, (.inl (fun _ => 0)))), (q309, .inl (cI, 100, (.inl (fun _ => 0)))), (q311, .inl (cJ, 100, (.inr (.inl (fun _ => 0)))))] H_1151 := hP_1151
  clear hP_1151
  have hD_1153 : va_D A [(h0, .inr (12, (fs_312.set 167 (.int 0)))), (q1, .inl (cI, 4000, (.inl (fun _ => 0)))), (q3, .inl (cI, 6, (.inl (fun _ => 0)))), (q5, .inl (cI, 49152, (.inl (fun _ => 0)))), (q7, .inl (cZ, 768, (.inl (fun _ => 0)))), (q305, .inl (cI, 100, (.inl (fun _ => 0)))), (q307, .inl (cI, 100, (.inl (fun _ => 0)))), (q309, .inl (cI, 100, (.inl (fun _ => 0)))), (q311, .inl (cJ, 100, (.inr (.inl (fun _ => 0)))))] := hD_1151
  clear hD_1151
  obtain ⟨fs_313, efs_313⟩ : ∃ y, y = (fs_312.set 167 (.int 0)) := ⟨_, rfl⟩
  rw [← efs_313] at hP_1152 hD_1153
  have hfl_313 : fs_313.length = 172 := by rw [efs_313, List.length_set]; exact hfl_312
  clear hfl_312
  have el_313 : fs_313 = [.int 0, .ref q1, .int 0, .int 0, .ref q3, .ref q5, .ref q7, .int 0, .ref q9, .ref q11, .ref q13, .ref q15, .ref q17, .ref q19, .ref q21, .int 1, .int 0, .ref q24, .ref q26, .int 0, .int 0, .ref q28, .ref q30, .ref q32, .ref q34, .ref q36, .int 0, .ref q38, .ref q40, .int 0, .int 0, .ref q42, .ref q44, .ref q46, .int 0, .ref q48, .ref q50, .ref q52, .ref q54, .int 0, .int 0, .int 0, .int 0, .int 0, .int 0, .int 0, .int 0, .int 0, .int 0, .int 0, .ref q56, .ref q58, .int 0, .int 0, .ref q60, .int 0, .int 0, .int 0, .int 0, .int 0, .ref q62, .ref q64, .ref q66, .ref q68, .ref q70, .ref q72, .ref q74, .ref q76, .ref q78, .ref q80, .ref q82, .ref q84, .ref q86, .ref q88, .ref q90, .ref q92, .ref q94, .ref q96, .ref q98, .ref q100, .ref q102, .ref q104, .ref q106, .ref q108, .ref q110, .ref q112, .ref q114, .ref q116, .ref q118, .ref q120, .ref q122, .int 0, .int 0, .int 0, .ref q124, .ref q126, .ref q128, .int 0, .ref q130, .ref q132, .ref q134, .ref q136, .int 0, .ref q138, .ref q140, .ref q142, .int 0, .int 0, .int 0, .int 0, .int 0, .ref q144, .ref q146, .ref q148, .ref q150, .ref q152, .ref q154, .ref q156, .ref q158, .ref q160, .int 0, .ref q162, .int 0, .ref q164, .int 0, .ref q166, .ref q168, .ref q170, .int 0, .int 0, .ref q172, .ref q174, .ref q176, .ref q244, .ref q257, .int 0, .int 0, .int 0, .ref q263, .int 0, .ref q265, .int 0, .ref q267, .ref q269, .ref q271, .ref q273, .int 0, .int 0, .ref q275, .int 0, .ref q277, .int 0, .ref q279, .ref q281, .ref q283, .ref q285, .ref q287, .int 0, .ref q289, .ref q291, .ref q293, .int 0, .ref q295, .ref q297, .ref q299, .ref q301, .ref q303, .int 0, .ref q305, .ref q307, .ref q309, .ref q311] := by rw [efs_313, efs_312, efs_310, efs_308, efs_306, efs_304, efs_302, efs_300, efs_298, el_296]; rfl
  clear efs_298 efs_300 efs_302 efs_304 efs_306 efs_308 efs_310 efs_312 efs_313 el_296
  rw [el_313] at hP_1152 hD_1153
  have hP9 := hP_1152.sub (ws' := [(h0, .inr (12, fsM (pick [0, q1, 0, 0, q3, q5, q7, 0, q9, q11, q13, q15, q17, q19, q21, 0, 0, q24, q26, 0, 0, q28, q30, q32, q34, q36, 0, q38, q40, 0, 0, q42, q44, q46, 0, q48, q50, q52, q54, 0, 0, 0, 0, 0, 0, 0, 0, 0, 0, 0, q56, q58, 0, 0, q60, 0, 0, 0, 0, 0, q62, q64, q66, q68, q70, q72, q74, q76, q78, q80, q82, q84, q86, q88, q90, q92, q94, q96, q98, q100, q102, q104, q106, q108, q110, q112, q114, q116, q118, q120, q122, 0, 0, 0, q124, q126, q128, 0, q130, q132, q134, q136, 0, q138, q140, q142, 0, 0, 0, 0, 0, q144, q146, q148, q150, q152, q154, q156, q158, q160, 0, q162, 0, q164, 0, q166, q168, q170, 0, 0, q172, q174, q176, q244, q257, 0, 0, 0, q263, 0, q265, 0, q267, q269, q271, q273, 0, 0, q275, 0, q277, 0, q279, q281, q283, q285, q287, 0, q289, q291, q293, 0, q295, q297, q299, q301, q303, 0, q305, q307, q309, q311]))), (((pick [0, q1, 0, 0, q3, q5, q7, 0, q9, q11, q13, q15, q17, q19, q21, 0, 0, q24, q26, 0, 0, q28, q30, q32, q34, q36, 0, q38, q40, 0, 0, q42, q44, q46, 0, q48, q50, q52, q54, 0, 0, 0, 0, 0, 0, 0, 0, 0, 0, 0, q56, q58, 0, 0, q60, 0, 0, 0, 0, 0, q62, q64, q66, q68, q70, q72, q74, q76, q78, q80, q82, q84, q86, q88, q90, q92, q94, q96, q98, q100, q102, q104, q106, q108, q110, q112, q114, q116, q118, q120, q122, 0, 0, 0, q124, q126, q128, 0, q130, q132, q134, q136, 0, q138, q140, q142, 0, 0, 0, 0, 0, q144, q146, q148, q150, q152, q154, q156, q158, q160, 0, q162, 0, q164, 0, q166, q168, q170, 0, 0, q172, q174, q176, q244, q257, 0, 0, 0, q263, 0, q265, 0, q267, q269, q271, q273, 0, 0, q275, 0, q277, 0, q279, q281, q283, q285, q287, 0, q289, q291, q293, 0, q295, q297, q299, q301, q303, 0, q305, q307, q309, q311]) 1), .inl (cI, 4000, (.inl (fun _ => 0)))), (((pick [0, q1, 0, 0, q3, q5, q7, 0, q9, q11, q13, q15, q17, q19, q21, 0, 0, q24, q26, 0, 0, q28, q30, q32, q34, q36, 0, q38, q40, 0, 0, q42, q44, q46, 0, q48, q50, q52, q54, 0, 0, 0, 0, 0, 0, 0, 0, 0, 0, 0, q56, q58, 0, 0, q60, 0, 0, 0, 0, 0, q62, q64, q66, q68, q70, q72, q74, q76, q78, q80, q82, q84, q86, q88, q90, q92, q94, q96, q98, q100, q102, q104, q106, q108, q110, q112, q114, q116, q118, q120, q122, 0, 0, 0, q124, q126, q128, 0, q130, q132, q134, q136, 0, q138, q140, q142, 0, 0, 0, 0, 0, q144, q146, q148, q150, q152, q154, q156, q158, q160, 0, q162, 0, q164, 0, q166, q168, q170, 0, 0, q172, q174, q176, q244, q257, 0, 0, 0, q263, 0, q265, 0, q267, q269, q271, q273, 0, 0, q275, 0, q277, 0, q279, q281, q283, q285, q287, 0, q289, q291, q293, 0, q295, q297, q299, q301, q303, 0, q305, q307, q309, q311]) 4), .inl (cI, 6, (.inl (fun _ => 0)))), (((pick [0, q1, 0, 0, q3, q5, q7, 0, q9, q11, q13, q15, q17, q19, q21, 0, 0, q24, q26, 0, 0, q28, q30, q32, q34, q36, 0, q38, q40, 0, 0, q42, q44, q46, 0, q48, q50, q52, q54, 0, 0, 0, 0, 0, 0, 0, 0, 0, 0, 0, q56, q58, 0, 0, q60, 0, 0, 0, 0, 0, q62, q64, q66, q68, q70, q72, q74, q76, q78, q80, q82, q84, q86, q88, q90, q92, q94, q96, q98, q100, q102, q104, q106, q108, q110, q112, q114, q116, q118, q120, q122, 0, 0, 0, q124, q126, q128, 0, q130, q132, q134, q136, 0, q138, q140, q142, 0, 0, 0, 0, 0, q144, q146, q148, q150, q152, q154, q156, q158, q160, 0, q162, 0, q164, 0, q166, q168, q170, 0, 0, q172, q174, q176, q244, q257, 0, 0, 0, q263, 0, q265, 0, q267, q269, q271, q273, 0, 0, q275, 0, q277, 0, q279, q281, q283, q285, q287, 0, q289, q291, q293, 0, q295, q297, q299, q301, q303, 0, q305, q307, q309, q311]) 5), .inl (cI, 49152, (.inl (fun _ => 0)))), (((pick [0, q1, 0, 0, q3, q5, q7, 0, q9, q11, q13, q15, q17, q19, q21, 0, 0, q24, q26, 0, 0, q28, q30, q32, q34, q36, 0, q38, q40, 0, 0, q42, q44, q46, 0, q48, q50, q52, q54, 0, 0, 0, 0, 0, 0, 0, 0, 0, 0, 0, q56, q58, 0, 0, q60, 0, 0, 0, 0, 0, q62, q64, q66, q68, q70, q72, q74, q76, q78, q80, q82, q84, q86, q88, q90, q92, q94, q96, q98, q100, q102, q104, q106, q108, q110, q112, q114, q116, q118, q120, q122, 0, 0, 0, q124, q126, q128, 0, q130, q132, q134, q136, 0, q138, q140, q142, 0, 0, 0, 0, 0, q144, q146, q148, q150, q152, q154, q156, q158, q160, 0, q162, 0, q164, 0, q166, q168, q170, 0, 0, q172, q174, q176, q244, q257, 0, 0, 0, q263, 0, q265, 0, q267, q269, q271, q273, 0, 0, q275, 0, q277, 0, q279, q281, q283, q285, q287, 0, q289, q291, q293, 0, q295, q297, q299, q301, q303, 0, q305, q307, q309, q311]) 6), .inl (cZ, 768, (.inl (fun _ => 0)))), (((pick [0, q1, 0, 0, q3, q5, q7, 0, q9, q11, q13, q15, q17, q19, q21, 0, 0, q24, q26, 0, 0, q28, q30, q32, q34, q36, 0, q38, q40, 0, 0, q42, q44, q46, 0, q48, q50, q52, q54, 0, 0, 0, 0, 0, 0, 0, 0, 0, 0, 0, q56, q58, 0, 0, q60, 0, 0, 0, 0, 0, q62, q64, q66, q68, q70, q72, q74, q76, q78, q80, q82, q84, q86, q88, q90, q92, q94, q96, q98, q100, q102, q104, q106, q108, q110, q112, q114, q116, q118, q120, q122, 0, 0, 0, q124, q126, q128, 0, q130, q132, q134, q136, 0, q138, q140, q142, 0, 0, 0, 0, 0, q144, q146, q148, q150, q152, q154, q156, q158, q160, 0, q162, 0, q164, 0, q166, q168, q170, 0, 0, q172, q174, q176, q244, q257, 0, 0, 0, q263, 0, q265, 0, q267, q269, q271, q273, 0, 0, q275, 0, q277, 0, q279, q281, q283, q285, q287, 0, q289, q291, q293, 0, q295, q297, q299, q301, q303, 0, q305, q307, q309, q311]) 168), .inl (cI, 100, (.inl (fun _ => 0)))), (((pick [0, q1, 0, 0, q3, q5, q7, 0, q9, q11, q13, q15, q17, q19, q21, 0, 0, q24, q26, 0, 0, q28, q30, q32, q34, q36, 0, q38, q40, 0, 0, q42, q44, q46, 0, q48, q50, q52, q54, 0, 0, 0, 0, 0, 0, 0, 0, 0, 0, 0, q56, q58, 0, 0, q60, 0, 0, 0, 0, 0, q62, q64, q66, q68, q70, q72, q74, q76, q78, q80, q82, q84, q86, q88, q90, q92, q94, q96, q98, q100, q102, q104, q106, q108, q110, q112, q114, q116, q118, q120, q122, 0, 0, 0, q124, q126, q128, 0, q130, q132, q134, q136, 0, q138, q140, q142, 0, 0, 0, 0, 0, q144, q146, q148, q150, q152, q154, q156, q158, q160, 0, q162, 0, q164, 0, q166, q168, q170, 0, 0, q172, q174, q176, q244, q257, 0, 0, 0, q263, 0, q265, 0, q267, q269, q271, q273, 0, 0, q275, 0, q277, 0, q279, q281, q283, q285, q287, 0, q289, q291, q293, 0, q295, q297, q299, q301, q303, 0, q305, q307, q309, q311]) 169), .inl (cI, 100, (.inl (fun _ => 0)))), (((pick [0, q1, 0, 0, q3, q5, q7, 0, q9, q11, q13, q15, q17, q19, q21, 0, 0, q24, q26, 0, 0, q28, q30, q32, q34, q36, 0, q38, q40, 0, 0, q42, q44, q46, 0, q48, q50, q52, q54, 0, 0, 0, 0, 0, 0, 0, 0, 0, 0, 0, q56, q58, 0, 0, q60, 0, 0, 0, 0, 0, q62, q64, q66, q68, q70, q72, q74, q76, q78, q80, q82, q84, q86, q88, q90, q92, q94, q96, q98, q100, q102, q104, q106, q108, q110, q112, q114, q116, q118, q120, q122, 0, 0, 0, q124, q126, q128, 0, q130, q132, q134, q136, 0, q138, q140, q142, 0, 0, 0, 0, 0, q144, q146, q148, q150, q152, q154, q156, q158, q160, 0, q162, 0, q164, 0, q166, q168, q170, 0, 0, q172, q174, q176, q244, q257, 0, 0, 0, q263, 0, q265, 0, q267, q269, q271, q273, 0, 0, q275, 0, q277, 0, q279, q281, q283, q285, q287, 0, q289, q291, q293, 0, q295, q297, q299, q301, q303, 0, q305, q307, q309, q311]) 170), .inl (cI, 100, (.inl (fun _ => 0)))), (((pick [0, q1, 0, 0, q3, q5, q7, 0, q9, q11, q13, q15, q17, q19, q21, 0, 0, q24, q26, 0, 0, q28, q30, q32, q34, q36, 0, q38, q40, 0, 0, q42, q44, q46, 0, q48, q50, q52, q54, 0, 0, 0, 0, 0, 0, 0, 0, 0, 0, 0, q56, q58, 0, 0, q60, 0, 0, 0, 0, 0, q62, q64, q66, q68, q70, q72, q74, q76, q78, q80, q82, q84, q86, q88, q90, q92, q94, q96, q98, q100, q102, q104, q106, q108, q110, q112, q114, q116, q118, q120, q122, 0, 0, 0, q124, q126, q128, 0, q130, q132, q134, q136, 0, q138, q140, q142, 0, 0, 0, 0, 0, q144, q146, q148, q150, q152, q154, q156, q158, q160, 0, q162, 0, q164, 0, q166, q168, q170, 0, 0, q172, q174, q176, q244, q257, 0, 0, 0, q263, 0, q265, 0, q267, q269, q271, q273, 0, 0, q275, 0, q277, 0, q279, q281, q283, q285, q287, 0, q289, q291, q293, 0, q295, q297, q299, q301, q303, 0, q305, q307, q309, q311]) 171), .inl (cJ, 100, (.inr (.inl (fun _ => 0)))))]) [0, 1, 2, 3, 4, 5, 6, 7, 8] rfl
  have hD9 := hD_1153.sub (ws' := [(h0, .inr (12, fsM (pick [0, q1, 0, 0, q3, q5, q7, 0, q9, q11, q13, q15, q17, q19, q21, 0, 0, q24, q26, 0, 0, q28, q30, q32, q34, q36, 0, q38, q40, 0, 0, q42, q44, q46, 0, q48, q50, q52, q54, 0, 0, 0, 0, 0, 0, 0, 0, 0, 0, 0, q56, q58, 0, 0, q60, 0, 0, 0, 0, 0, q62, q64, q66, q68, q70, q72, q74, q76, q78, q80, q82, q84, q86, q88, q90, q92, q94, q96, q98, q100, q102, q104, q106, q108, q110, q112, q114, q116, q118, q120, q122, 0, 0, 0, q124, q126, q128, 0, q130, q132, q134, q136, 0, q138, q140, q142, 0, 0, 0, 0, 0, q144, q146, q148, q150, q152, q154, q156, q158, q160, 0, q162, 0, q164, 0, q166, q168, q170, 0, 0, q172, q174, q176, q244, q257, 0, 0, 0, q263, 0, q265, 0, q267, q269, q271, q273, 0, 0, q275, 0, q277, 0, q279, q281, q283, q285, q287, 0, q289, q291, q293, 0, q295, q297, q299, q301, q303, 0, q305, q307, q309, q311]))), (((pick [0, q1, 0, 0, q3, q5, q7, 0, q9, q11, q13, q15, q17, q19, q21, 0, 0, q24, q26, 0, 0, q28, q30, q32, q34, q36, 0, q38, q40, 0, 0, q42, q44, q46, 0, q48, q50, q52, q54, 0, 0, 0, 0, 0, 0, 0, 0, 0, 0, 0, q56, q58, 0, 0, q60, 0, 0, 0, 0, 0, q62, q64, q66, q68, q70, q72, q74, q76, q78, q80, q82, q84, q86, q88, q90, q92, q94, q96, q98, q100, q102, q104, q106, q108, q110, q112, q114, q116, q118, q120, q122, 0, 0, 0, q124, q126, q128, 0, q130, q132, q134, q136, 0, q138, q140, q142, 0, 0, 0, 0, 0, q144, q146, q148, q150, q152, q154, q156, q158, q160, 0, q162, 0, q164, 0, q166, q168, q170, 0, 0, q172, q174, q176, q244, q257, 0, 0, 0, q263, 0, q265, 0, q267, q269, q271, q273, 0, 0, q275, 0, q277, 0, q279, q281, q283, q285, q287, 0, q289, q291, q293, 0, q295, q297, q299, q301, q303, 0, q305, q307, q309, q311]) 1), .inl (cI, 4000, (.inl (fun _ => 0)))), (((pick [0, q1, 0, 0, q3, q5, q7, 0, q9, q11, q13, q15, q17, q19, q21, 0, 0, q24, q26, 0, 0, q28, q30, q32, q34, q36, 0, q38, q40, 0, 0, q42, q44, q46, 0, q48, q50, q52, q54, 0, 0, 0, 0, 0, 0, 0, 0, 0, 0, 0, q56, q58, 0, 0, q60, 0, 0, 0, 0, 0, q62, q64, q66, q68, q70, q72, q74, q76, q78, q80, q82, q84, q86, q88, q90, q92, q94, q96, q98, q100, q102, q104, q106, q108, q110, q112, q114, q116, q118, q120, q122, 0, 0, 0, q124, q126, q128, 0, q130, q132, q134, q136, 0, q138, q140, q142, 0, 0, 0, 0, 0, q144, q146, q148, q150, q152, q154, q156, q158, q160, 0, q162, 0, q164, 0, q166, q168, q170, 0, 0, q172, q174, q176, q244, q257, 0, 0, 0, q263, 0, q265, 0, q267, q269, q271, q273, 0, 0, q275, 0, q277, 0, q279, q281, q283, q285, q287, 0, q289, q291, q293, 0, q295, q297, q299, q301, q303, 0, q305, q307, q309, q311]) 4), .inl (cI, 6, (.inl (fun _ => 0)))), (((pick [0, q1, 0, 0, q3, q5, q7, 0, q9, q11, q13, q15, q17, q19, q21, 0, 0, q24, q26, 0, 0, q28, q30, q32, q34, q36, 0, q38, q40, 0, 0, q42, q44, q46, 0, q48, q50, q52, q54, 0, 0, 0, 0, 0, 0, 0, 0, 0, 0, 0, q56, q58, 0, 0, q60, 0, 0, 0, 0, 0, q62, q64, q66, q68, q70, q72, q74, q76, q78, q80, q82, q84, q86, q88, q90, q92, q94, q96, q98, q100, q102, q104, q106, q108, q110, q112, q114, q116, q118, q120, q122, 0, 0, 0, q124, q126, q128, 0, q130, q132, q134, q136, 0, q138, q140, q142, 0, 0, 0, 0, 0, q144, q146, q148, q150, q152, q154, q156, q158, q160, 0, q162, 0, q164, 0, q166, q168, q170, 0, 0, q172, q174, q176, q244, q257, 0, 0, 0, q263, 0, q265, 0, q267, q269, q271, q273, 0, 0, q275, 0, q277, 0, q279, q281, q283, q285, q287, 0, q289, q291, q293, 0, q295, q297, q299, q301, q303, 0, q305, q307, q309, q311]) 5), .inl (cI, 49152, (.inl (fun _ => 0)))), (((pick [0, q1, 0, 0, q3, q5, q7, 0, q9, q11, q13, q15, q17, q19, q21, 0, 0, q24, q26, 0, 0, q28, q30, q32, q34, q36, 0, q38, q40, 0, 0, q42, q44, q46, 0, q48, q50, q52, q54, 0, 0, 0, 0, 0, 0, 0, 0, 0, 0, 0, q56, q58, 0, 0, q60, 0, 0, 0, 0, 0, q62, q64, q66, q68, q70, q72, q74, q76, q78, q80, q82, q84, q86, q88, q90, q92, q94, q96, q98, q100, q102, q104, q106, q108, q110, q112, q114, q116, q118, q120, q122, 0, 0, 0, q124, q126, q128, 0, q130, q132, q134, q136, 0, q138, q140, q142, 0, 0, 0, 0, 0, q144, q146, q148, q150, q152, q154, q156, q158, q160, 0, q162, 0, q164, 0, q166, q168, q170, 0, 0, q172, q174, q176, q244, q257, 0, 0, 0, q263, 0, q265, 0, q267, q269, q271, q273, 0, 0, q275, 0, q277, 0, q279, q281, q283, q285, q287, 0, q289, q291, q293, 0, q295, q297, q299, q301, q303, 0, q305, q307, q309, q311]) 6), .inl (cZ, 768, (.inl (fun _ => 0)))), (((pick [0, q1, 0, 0, q3, q5, q7, 0, q9, q11, q13, q15, q17, q19, q21, 0, 0, q24, q26, 0, 0, q28, q30, q32, q34, q36, 0, q38, q40, 0, 0, q42, q44, q46, 0, q48, q50, q52, q54, 0, 0, 0, 0, 0, 0, 0, 0, 0, 0, 0, q56, q58, 0, 0, q60, 0, 0, 0, 0, 0, q62, q64, q66, q68, q70, q72, q74, q76, q78, q80, q82, q84, q86, q88, q90, q92, q94, q96, q98, q100, q102, q104, q106, q108, q110, q112, q114, q116, q118, q120, q122, 0, 0, 0, q124, q126, q128, 0, q130, q132, q134, q136, 0, q138, q140, q142, 0, 0, 0, 0, 0, q144, q146, q148, q150, q152, q154, q156, q158, q160, 0, q162, 0, q164, 0, q166, q168, q170, 0, 0, q172, q174, q176, q244, q257, 0, 0, 0, q263, 0, q265, 0, q267, q269, q271, q273, 0, 0, q275, 0, q277, 0, q279, q281, q283, q285, q287, 0, q289, q291, q293, 0, q295, q297, q299, q301, q303, 0, q305, q307, q309, q311]) 168), .inl (cI, 100, (.inl (fun _ => 0)))), (((pick [0, q1, 0, 0, q3, q5, q7, 0, q9, q11, q13, q15, q17, q19, q21, 0, 0, q24, q26, 0, 0, q28, q30, q32, q34, q36, 0, q38, q40, 0, 0, q42, q44, q46, 0, q48, q50, q52, q54, 0, 0, 0, 0, 0, 0, 0, 0, 0, 0, 0, q56, q58, 0, 0, q60, 0, 0, 0, 0, 0, q62, q64, q66, q68, q70, q72, q74, q76, q78, q80, q82, q84, q86, q88, q90, q92, q94, q96, q98, q100, q102, q104, q106, q108, q110, q112, q114, q116, q118, q120, q122, 0, 0, 0, q124, q126, q128, 0, q130, q132, q134, q136, 0, q138, q140, q142, 0, 0, 0, 0, 0, q144, q146, q148, q150, q152, q154, q156, q158, q160, 0, q162, 0, q164, 0, q166, q168, q170, 0, 0, q172, q174, q176, q244, q257, 0, 0, 0, q263, 0, q265, 0, q267, q269, q271, q273, 0, 0, q275, 0, q277, 0, q279, q281, q283, q285, q287, 0, q289, q291, q293, 0, q295, q297, q299, q301, q303, 0, q305, q307, q309, q311]) 169), .inl (cI, 100, (.inl (fun _ => 0)))), (((pick [0, q1, 0, 0, q3, q5, q7, 0, q9, q11, q13, q15, q17, q19, q21, 0, 0, q24, q26, 0, 0, q28, q30, q32, q34, q36, 0, q38, q40, 0, 0, q42, q44, q46, 0, q48, q50, q52, q54, 0, 0, 0, 0, 0, 0, 0, 0, 0, 0, 0, q56, q58, 0, 0, q60, 0, 0, 0, 0, 0, q62, q64, q66, q68, q70, q72, q74, q76, q78, q80, q82, q84, q86, q88, q90, q92, q94, q96, q98, q100, q102, q104, q106, q108, q110, q112, q114, q116, q118, q120, q122, 0, 0, 0, q124, q126, q128, 0, q130, q132, q134, q136, 0, q138, q140, q142, 0, 0, 0, 0, 0, q144, q146, q148, q150, q152, q154, q156, q158, q160, 0, q162, 0, q164, 0, q166, q168, q170, 0, 0, q172, q174, q176, q244, q257, 0, 0, 0, q263, 0, q265, 0, q267, q269, q271, q273, 0, 0, q275, 0, q277, 0, q279, q281, q283, q285, q287, 0, q289, q291, q293, 0, q295, q297, q299, q301, q303, 0, q305, q307, q309, q311]) 170), .inl (cI, 100, (.inl (fun _ => 0)))), (((pick [0, q1, 0, 0, q3, q5, q7, 0, q9, q11, q13, q15, q17, q19, q21, 0, 0, q24, q26, 0, 0, q28, q30, q32, q34, q36, 0, q38, q40, 0, 0, q42, q44, q46, 0, q48, q50, q52, q54, 0, 0, 0, 0, 0, 0, 0, 0, 0, 0, 0, q56, q58, 0, 0, q60, 0, 0, 0, 0, 0, q62, q64, q66, q68, q70, q72, q74, q76, q78, q80, q82, q84, q86, q88, q90, q92, q94, q96, q98, q100, q102, q104, q106, q108, q110, q112, q114, q116, q118, q120, q122, 0, 0, 0, q124, q126, q128, 0, q130, q132, q134, q136, 0, q138, q140, q142, 0, 0, 0, 0, 0, q144, q146, q148, q150, q152, q154, q156, q158, q160, 0, q162, 0, q164, 0, q166, q168, q170, 0, 0, q172, q174, q176, q244, q257, 0, 0, 0, q263, 0, q265, 0, q267, q269, q271, q273, 0, 0, q275, 0, q277, 0, q279, q281, q283, q285, q287, 0, q289, q291, q293, 0, q295, q297, q299, q301, q303, 0, q305, q307, q309, q311]) 171), .inl (cJ, 100, (.inr (.inl (fun _ => 0)))))]) [0, 1, 2, 3, 4, 5, 6, 7, 8] (by decide) rfl
  exact W.vret hx hb hr (fun t ht hW => ⟨⟨(pick [0, q1, 0, 0, q3, q5, q7, 0, q9, q11, q13, q15, q17, q19, q21, 0, 0, q24, q26, 0, 0, q28, q30, q32, q34, q36, 0, q38, q40, 0, 0, q42, q44, q46, 0, q48, q50, q52, q54, 0, 0, 0, 0, 0, 0, 0, 0, 0, 0, 0, q56, q58, 0, 0, q60, 0, 0, 0, 0, 0, q62, q64, q66, q68, q70, q72, q74, q76, q78, q80, q82, q84, q86, q88, q90, q92, q94, q96, q98, q100, q102, q104, q106, q108, q110, q112, q114, q116, q118, q120, q122, 0, 0, 0, q124, q126, q128, 0, q130, q132, q134, q136, 0, q138, q140, q142, 0, 0, 0, 0, 0, q144, q146, q148, q150, q152, q154, q156, q158, q160, 0, q162, 0, q164, 0, q166, q168, q170, 0, 0, q172, q174, q176, q244, q257, 0, 0, 0, q263, 0, q265, 0, q267, q269, q271, q273, 0, 0, q275, 0, q277, 0, q279, q281, q283, q285, q287, 0, q289, q291, q293, 0, q295, q297, q299, q301, q303, 0, q305, q307, q309, q311]), rfl, trivial, by rw [ht]; exact hP9, hD9⟩, hS_1151.F ht⟩) hS_1151.2.2 dX12_init_1461
