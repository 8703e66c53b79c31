def dq_X12_question : List Cond := [.methodLink RX12 797 yX12_isTree, .instanceMethod yX12_isTree, .selects RX12 yX12_isTree yX12_isTree, .initialized RX12]
def wq_X12_question : List Cond := .code yX12_question cX12_question 6 (some .int) :: (dq_X12_question ++ (wq_X12_isTree))
theorem mq_X12_question_X12_isTree : ∀ w ∈ wq_X12_isTree, w ∈ wq_X12_question := fun w h => List.mem_cons_of_mem _ (List.mem_append_right _ (h))
theorem ga_X12_question : wq_X12_question.all goodWord = true := by decide +kernel
theorem gq_X12_question_X12_isTree_797 : GoodIn wq_X12_question (wsV RX12 797 RX12 yX12_isTree wq_X12_isTree) := goodIn_app (goodIn_r _ [1, 2, 3, 4] (by decide +kernel) (by decide +kernel)) (goodIn_sub mq_X12_question_X12_isTree ga_X12_isTree)
theorem tdq_X12_question : ∀ w ∈ dq_X12_question, w ∈ lw_tbl := fun w h => (goodIn_r (big := lw_tbl) dq_X12_question [3402, 3404, 239, 296] (by decide +kernel) (by decide +kernel) w h).1
theorem tq_X12_question : ∀ w ∈ wq_X12_question, w ∈ lw_tbl := fun w h => (List.mem_cons.mp h).elim (fun e => by rw [e]; exact List.mem_of_getElem? (i := 3558) (by decide +kernel)) (fun h => (List.mem_append.mp h).elim (fun h => tdq_X12_question w h) (fun h => tq_X12_isTree w h))
set_option maxHeartbeats 40000000 in
set_option maxRecDepth 100000 in
theorem c_X12_question (l : Launch) (dC : Nat → ClassId) (dI : Nat → Nat → Nat) (cI cB cZ cJ cC cP cV cT cO : ClassId) (sz : Nat) (h0 : Nat) (g : Nat → Nat)  (p0 : Int32) : Met l yX12_question wq_X12_question ({ frames := 2, cells := 0, slots := 0, locals := 46 }) (va_Pc [.ref h0, .int p0] (fun U => U.heap.size = sz ∧ va_P (dC, dI) vwCl [(h0, .inr (12, (fsM g)))] U.heap ∧ va_K (dC, dI) vwCl [(cI, .int), (cB, .byte), (cZ, .boolean), (cJ, .long), (cC, .char), (cP, .object "DiskEvidence$Picture"), (cV, .object "DiskEvidence$Volume"), (cT, .object "DiskEvidence$Tree"), (cO, .object "DiskEvidence$Opening")] U ∧ va_D (fun _ => True) [(h0, .inr (12, (fsM g)))])) (vp_Si (fun r : Int32 => r = (-2))) 0 0 (fun _ => False) := by
  refine Met.ofW (cc := cX12_question) (maxL := 6) (ret := (some .int)) (by decide) rfl ?_
  intro p e s m args below meth c s₁ B hml hv
  obtain ⟨rfl, hsz, hP, hK, hD0⟩ := hv
  have hx := B.exec
  have hb := B.bytes
  have hr := B.returns
  have hts := atoms_spec (ws := wq_X12_question) B.pre
  have hown : s.vm.findClass RX12 = some m.cls := findClass_of_methodNamed B.named
  have hlocks := B.notSynchronized
  subst hsz
  have hD := hD0.self (sz := s.heap.size)
  generalize hAe : va_A [(h0, .inr (12, (fsM g)))] s.heap.size = A at hD ⊢
  have hA : ∀ q : Nat, s.heap.size ≤ q → A q := fun q h => by rw [← hAe]; exact Or.inr h
  have hS : va_S A s.heap s.heap [] := va_S.rf
  have hl := lv_entry ([.ref h0, .int p0]) (n := 6) (Nat.le_of_ble_eq_true rfl)
  rw [lg_entry_eq]
  generalize (lg_sl ([.ref h0, .int p0]) ++ List.replicate (6 - (lg_sl ([.ref h0, .int p0])).length) Slot.unset).toArray = ls at hl ⊢
  have hl : lv_has ls 6 [(0, .ref h0), (1, .int p0)] := hl
  refine lv_aload_n hx hb dX12_question_0 rfl (lv_at hl 0 rfl) ?_
  refine lv_iload_n hx hb dX12_question_1 rfl (lv_at hl 1 rfl) ?_
  have hPc := hP.sub (ws' := [(h0, .inr (12, (fsM g)))]) [0] rfl
  have hDc := hD.sub (ws' := [(h0, .inr (12, (fsM g)))]) [0] (by decide) rfl
  have hKc := hK
  refine vp_callSi (va_Run.run (va_runV (As := [.int p0]) (rest := []) ⟨hx, hb, hml, hown, hts⟩ (c_X12_isTree l dC dI cI cB cZ cJ cC cP cV cT cO s.heap.size h0 g p0) (cwV 1 hts gq_X12_question_X12_isTree_797 rfl rfl rfl (by decide +kernel) ⟨Nat.le_of_ble_eq_true rfl, Nat.le_of_ble_eq_true rfl⟩) ⟨fun a U g mk q => by obtain ⟨q0, q1, qP, qK, qD⟩ := q; exact ⟨q0, q1, qP, va_K.moved (u := U) (U := U.calling g mk a) (Vm.Alike.refl U.vm) qK, qD⟩, va_recv hKc hPc (ci := 12) (q0 := 0) rfl rfl, fun U hU hW => ⟨rfl, by rw [hU], by rw [hU]; exact hPc, va_K.moved hW.alike hKc, hDc.weaken (fun _ _ _ _ => trivial)⟩⟩ rfl rfl hl.1 rfl (lv_room (Nat.le_of_ble_eq_true rfl)) dX12_question_2 ⟨Nat.le_of_ble_eq_true rfl, Nat.le_of_ble_eq_true rfl⟩)) (fun r_1 hr_1 => ?_)
  obtain rfl : r_1 = 0 := hr_1
  refine lv_if_ne (tgt := 11) hx hb dX12_question_5 (by decide) (fun c_2 => absurd (by decide) c_2) (fun _ => ?_)
  refine lv_bipush (v := (-2)) hx hb dX12_question_8 (by decide) ?_
  exact W.iret (v := (-2)) hx hb hr (fun t ht hW => ⟨(-2), rfl, rfl, ht⟩) (fun _ h => by cases h) dX12_question_10
def dq_X11_claim : List Cond := [.methodLink RX11 239 yX11_treeAt, .instanceMethod yX11_treeAt, .selects RX11 yX11_treeAt yX11_treeAt, .initialized RX11, .methodLink RX11 267 yX11_itemIn, .static yX11_itemIn]
def wq_X11_claim : List Cond := .code yX11_claim cX11_claim 10 (some .int) :: (dq_X11_claim ++ (wq_X11_treeAt ++ (wq_X11_itemIn)))
theorem mq_X11_claim_X11_treeAt : ∀ w ∈ wq_X11_treeAt, w ∈ wq_X11_claim := fun w h => List.mem_cons_of_mem _ (List.mem_append_right _ (List.mem_append_left _ h))
theorem mq_X11_claim_X11_itemIn : ∀ w ∈ wq_X11_itemIn, w ∈ wq_X11_claim := fun w h => List.mem_cons_of_mem _ (List.mem_append_right _ (List.mem_append_right _ (h)))
theorem ga_X11_claim : wq_X11_claim.all goodWord = true := by decide +kernel
theorem gq_X11_claim_X11_treeAt_239 : GoodIn wq_X11_claim (wsV RX11 239 RX11 yX11_treeAt wq_X11_treeAt) := goodIn_app (goodIn_r _ [1, 2, 3, 4] (by decide +kernel) (by decide +kernel)) (goodIn_sub mq_X11_claim_X11_treeAt ga_X11_treeAt)
theorem gq_X11_claim_X11_itemIn_267 : GoodIn wq_X11_claim (va_wsS RX11 267 yX11_itemIn wq_X11_itemIn) := goodIn_app (goodIn_r _ [5, 6, 4] (by decide +kernel) (by decide +kernel)) (goodIn_sub mq_X11_claim_X11_itemIn ga_X11_itemIn)
theorem tdq_X11_claim : ∀ w ∈ dq_X11_claim, w ∈ lw_tbl := fun w h => (goodIn_r (big := lw_tbl) dq_X11_claim [1742, 1744, 73, 290, 1793, 1794] (by decide +kernel) (by decide +kernel) w h).1
theorem tq_X11_claim : ∀ w ∈ wq_X11_claim, w ∈ lw_tbl := fun w h => (List.mem_cons.mp h).elim (fun e => by rw [e]; exact List.mem_of_getElem? (i := 2190) (by decide +kernel)) (fun h => (List.mem_append.mp h).elim (fun h => tdq_X11_claim w h) (fun h => (List.mem_append.mp h).elim (fun h => tq_X11_treeAt w h) (fun h => tq_X11_itemIn w h)))
set_option maxHeartbeats 40000000 in
set_option maxRecDepth 100000 in
theorem c_X11_claim (l : Launch) (dC : Nat → ClassId) (dI : Nat → Nat → Nat) (cI cB cZ cJ cC cP cV cT cO : ClassId) (sz : Nat) (h0 : Nat) (g : Nat → Nat)  (p0 : Int32) (p1 : Int32) (p2 : Int32) (p3 : Int32) : Met l yX11_claim wq_X11_claim ({ frames := 1, cells := 0, slots := 0, locals := 21 }) (va_Pc [.ref h0, .int p0, .int p1, .int p2, .int p3] (fun U => U.heap.size = sz ∧ va_P (dC, dI) vwCl [(h0, .inr (11, (fsX g)))] U.heap ∧ va_K (dC, dI) vwCl [(cI, .int), (cB, .byte), (cZ, .boolean), (cJ, .long), (cC, .char), (cP, .object "DiskEvidence$Picture"), (cV, .object "DiskEvidence$Volume"), (cT, .object "DiskEvidence$Tree"), (cO, .object "DiskEvidence$Opening")] U ∧ va_D (fun _ => True) [(h0, .inr (11, (fsX g)))])) (vp_Si (fun r : Int32 => r = (-2))) 0 0 (fun _ => False) := by
  refine Met.ofW (cc := cX11_claim) (maxL := 10) (ret := (some .int)) (by decide) rfl ?_
  intro p e s m args below meth c s₁ B hml hv
  obtain ⟨rfl, hsz, hP, hK, hD0⟩ := hv
  have hx := B.exec
  have hb := B.bytes
  have hr := B.returns
  have hts := atoms_spec (ws := wq_X11_claim) B.pre
  have hown : s.vm.findClass RX11 = some m.cls := findClass_of_methodNamed B.named
  have hlocks := B.notSynchronized
  subst hsz
  have hD := hD0.self (sz := s.heap.size)
  generalize hAe : va_A [(h0, .inr (11, (fsX g)))] s.heap.size = A at hD ⊢
  have hA : ∀ q : Nat, s.heap.size ≤ q → A q := fun q h => by rw [← hAe]; exact Or.inr h
  have hS : va_S A s.heap s.heap [] := va_S.rf
  have hl := lv_entry ([.ref h0, .int p0, .int p1, .int p2, .int p3]) (n := 10) (Nat.le_of_ble_eq_true rfl)
  rw [lg_entry_eq]
  generalize (lg_sl ([.ref h0, .int p0, .int p1, .int p2, .int p3]) ++ List.replicate (10 - (lg_sl ([.ref h0, .int p0, .int p1, .int p2, .int p3])).length) Slot.unset).toArray = ls at hl ⊢
  have hl : lv_has ls 10 [(0, .ref h0), (1, .int p0), (2, .int p1), (3, .int p2), (4, .int p3)] := hl
  refine lv_aload_n hx hb dX11_claim_0 rfl (lv_at hl 0 rfl) ?_
  refine lv_iload_n hx hb dX11_claim_1 rfl (lv_at hl 1 rfl) ?_
  have hPc := hP.sub (ws' := [(h0, .inr (11, (fsX g)))]) [0] rfl
  have hDc := hD.sub (ws' := [(h0, .inr (11, (fsX g)))]) [0] (by decide) rfl
  have hKc := hK
  refine va_csq (va_Run.run (va_runV (As := [.int p0]) (rest := []) ⟨hx, hb, hml, hown, hts⟩ (c_X11_treeAt l dC dI cI cB cZ cJ cC cP cV cT cO s.heap.size h0 g p0) (cwV 1 hts gq_X11_claim_X11_treeAt_239 rfl rfl rfl (by decide +kernel) ⟨Nat.le_of_ble_eq_true rfl, Nat.le_of_ble_eq_true rfl⟩) ⟨fun a U g mk q => by obtain ⟨q0, q1, qP, qK, qD⟩ := q; exact ⟨q0, q1, qP, va_K.moved (u := U) (U := U.calling g mk a) (Vm.Alike.refl U.vm) qK, qD⟩, va_recv hKc hPc (ci := 11) (q0 := 0) rfl rfl, fun U hU hW => ⟨rfl, by rw [hU], by rw [hU]; exact hPc, va_K.moved hW.alike hKc, hDc.weaken (fun _ _ _ _ => trivial)⟩⟩ rfl rfl hl.1 rfl (lv_room (Nat.le_of_ble_eq_true rfl)) dX11_claim_2 ⟨Nat.le_of_ble_eq_true rfl, Nat.le_of_ble_eq_true rfl⟩)) (fun r_1 hr_1 => ?_)
  obtain rfl : r_1 = none := hr_1
  refine W.eq (g2 := F0 m 5 ls ([.null])) rfl ?_
  refine lv_astoreN (lv' := [(5, .null), (0, .ref h0), (1, .int p0), (2, .int p1), (3, .int p2), (4, .int p3)]) hx hb dX11_claim_5 hl (by decide) rfl (fun ls hl => ?_)
  refine lv_aloadN hx hb dX11_claim_7 (lv_at hl 0 rfl) ?_
  refine lv_iload_n hx hb dX11_claim_9 rfl (lv_at hl 3 rfl) ?_
  refine va_csq (va_Run.run (va_runS (As := [.null, .int p1]) (rest := []) ⟨hx, hb, hml, hown, hts⟩ (c_X11_itemIn l p1) (va_cwS 2 hts gq_X11_claim_X11_itemIn_267 rfl rfl rfl (by decide +kernel) ⟨Nat.le_of_ble_eq_true rfl, Nat.le_of_ble_eq_true rfl⟩) ⟨fun a U g mk q => q, fun U hU hW => ⟨rfl, trivial⟩⟩ rfl rfl hl.1 rfl (lv_room (Nat.le_of_ble_eq_true rfl)) dX11_claim_10 ⟨Nat.le_of_ble_eq_true rfl, Nat.le_of_ble_eq_true rfl⟩)) (fun r_2 hr_2 => ?_)
  obtain rfl : r_2 = none := hr_2
  refine W.eq (g2 := F0 m 13 ls ([.null])) rfl ?_
  refine lv_astoreN (lv' := [(6, .null), (5, .null), (0, .ref h0), (1, .int p0), (2, .int p1), (3, .int p2), (4, .int p3)]) hx hb dX11_claim_13 hl (by decide) rfl (fun ls hl => ?_)
  refine lv_aloadN hx hb dX11_claim_15 (lv_at hl 1 rfl) ?_
  refine lv_ifnullN (tgt := 54) hx hb dX11_claim_17 (by decide) ?_
  refine lv_bipush (v := (-2)) hx hb dX11_claim_54 (by decide) ?_
  exact W.iret (v := (-2)) hx hb hr (fun t ht hW => ⟨(-2), rfl, rfl, ht⟩) (fun _ h => by cases h) dX11_claim_56
def dq_X12_claim : List Cond := [.methodLink RX12 1153 yX12_isOwnFile, .instanceMethod yX12_isOwnFile, .selects RX12 yX12_isOwnFile yX12_isOwnFile, .initialized RX12]
def wq_X12_claim : List Cond := .code yX12_claim cX12_claim 7 (some .int) :: (dq_X12_claim ++ (wq_X12_isOwnFile))
theorem mq_X12_claim_X12_isOwnFile : ∀ w ∈ wq_X12_isOwnFile, w ∈ wq_X12_claim := fun w h => List.mem_cons_of_mem _ (List.mem_append_right _ (h))
theorem ga_X12_claim : wq_X12_claim.all goodWord = true := by decide +kernel
theorem gq_X12_claim_X12_isOwnFile_1153 : GoodIn wq_X12_claim (wsV RX12 1153 RX12 yX12_isOwnFile wq_X12_isOwnFile) := goodIn_app (goodIn_r _ [1, 2, 3, 4] (by decide +kernel) (by decide +kernel)) (goodIn_sub mq_X12_claim_X12_isOwnFile ga_X12_isOwnFile)
theorem tdq_X12_claim : ∀ w ∈ dq_X12_claim, w ∈ lw_tbl := fun w h => (goodIn_r (big := lw_tbl) dq_X12_claim [3680, 3682, 285, 296] (by decide +kernel) (by decide +kernel) w h).1
theorem tq_X12_claim : ∀ w ∈ wq_X12_claim, w ∈ lw_tbl := fun w h => (List.mem_cons.mp h).elim (fun e => by rw [e]; exact List.mem_of_getElem? (i := 3679) (by decide +kernel)) (fun h => (List.mem_append.mp h).elim (fun h => tdq_X12_claim w h) (fun h => tq_X12_isOwnFile w h))
set_option maxHeartbeats 40000000 in
set_option maxRecDepth 100000 in
theorem c_X12_claim (l : Launch) (dC : Nat → ClassId) (dI : Nat → Nat → Nat) (cI cB cZ cJ cC cP cV cT cO : ClassId) (sz : Nat) (h0 : Nat) (g : Nat → Nat)  (p0 : Int32) (p1 : Int32) (p2 : Int32) (p3 : Int32) : Met l yX12_claim wq_X12_claim ({ frames := 4, cells := 0, slots := 0, locals := 90 }) (va_Pc [.ref h0, .int p0, .int p1, .int p2, .int p3] (fun U => U.heap.size = sz ∧ va_P (dC, dI) vwCl [(h0, .inr (12, (fsM g)))] U.heap ∧ va_K (dC, dI) vwCl [(cI, .int), (cB, .byte), (cZ, .boolean), (cJ, .long), (cC, .char), (cP, .object "DiskEvidence$Picture"), (cV, .object "DiskEvidence$Volume"), (cT, .object "DiskEvidence$Tree"), (cO, .object "DiskEvidence$Opening")] U ∧ va_D (fun _ => True) [(h0, .inr (12, (fsM g)))])) (vp_Si (fun r : Int32 => r = (-2))) 0 0 (fun _ => False) := by
  refine Met.ofW (cc := cX12_claim) (maxL := 7) (ret := (some .int)) (by decide) rfl ?_
  intro p e s m args below meth c s₁ B hml hv
  obtain ⟨rfl, hsz, hP, hK, hD0⟩ := hv
  have hx := B.exec
  have hb := B.bytes
  have hr := B.returns
  have hts := atoms_spec (ws := wq_X12_claim) B.pre
  have hown : s.vm.findClass RX12 = some m.cls := findClass_of_methodNamed B.named
  have hlocks := B.notSynchronized
  subst hsz
  have hD := hD0.self (sz := s.heap.size)
  generalize hAe : va_A [(h0, .inr (12, (fsM g)))] s.heap.size = A at hD ⊢
  have hA : ∀ q : Nat, s.heap.size ≤ q → A q := fun q h => by rw [← hAe]; exact Or.inr h
  have hS : va_S A s.heap s.heap [] := va_S.rf
  have hl := lv_entry ([.ref h0, .int p0, .int p1, .int p2, .int p3]) (n := 7) (Nat.le_of_ble_eq_true rfl)
  rw [lg_entry_eq]
  generalize (lg_sl ([.ref h0, .int p0, .int p1, .int p2, .int p3]) ++ List.replicate (7 - (lg_sl ([.ref h0, .int p0, .int p1, .int p2, .int p3])).length) Slot.unset).toArray = ls at hl ⊢
  have hl : lv_has ls 7 [(0, .ref h0), (1, .int p0), (2, .int p1), (3, .int p2), (4, .int p3)] := hl
  refine lv_aload_n hx hb dX12_claim_0 rfl (lv_at hl 0 rfl) ?_
  refine lv_iload_n hx hb dX12_claim_1 rfl (lv_at hl 1 rfl) ?_
  refine lv_iload_n hx hb dX12_claim_2 rfl (lv_at hl 2 rfl) ?_
  have hPc := hP.sub (ws' := [(h0, .inr (12, (fsM g)))]) [0] rfl
  have hDc := hD.sub (ws' := [(h0, .inr (12, (fsM g)))]) [0] (by decide) rfl
  have hKc := hK
  refine vp_callSi (va_Run.run (va_runV (As := [.int p0, .int p1]) (rest := []) ⟨hx, hb, hml, hown, hts⟩ (c_X12_isOwnFile l dC dI cI cB cZ cJ cC cP cV cT cO s.heap.size h0 g p0 p1) (cwV 2 hts gq_X12_claim_X12_isOwnFile_1153 rfl rfl rfl (by decide +kernel) ⟨Nat.le_of_ble_eq_true rfl, Nat.le_of_ble_eq_true rfl⟩) ⟨fun a U g mk q => by obtain ⟨q0, q1, qP, qK, qD⟩ := q; exact ⟨q0, q1, qP, va_K.moved (u := U) (U := U.calling g mk a) (Vm.Alike.refl U.vm) qK, qD⟩, va_recv hKc hPc (ci := 12) (q0 := 0) rfl rfl, fun U hU hW => ⟨rfl, by rw [hU], by rw [hU]; exact hPc, va_K.moved hW.alike hKc, hDc.weaken (fun _ _ _ _ => trivial)⟩⟩ rfl rfl hl.1 rfl (lv_room (Nat.le_of_ble_eq_true rfl)) dX12_claim_3 ⟨Nat.le_of_ble_eq_true rfl, Nat.le_of_ble_eq_true rfl⟩)) (fun r_1 hr_1 => ?_)
  obtain rfl : r_1 = 0 := hr_1
  refine lv_if_eq (tgt := 46) hx hb dX12_claim_6 (by decide) (fun _ => ?_) (fun c_2 => absurd (by decide) c_2)
  refine lv_bipush (v := (-2)) hx hb dX12_claim_46 (by decide) ?_
  exact W.iret (v := (-2)) hx hb hr (fun t ht hW => ⟨(-2), rfl, rfl, ht⟩) (fun _ h => by cases h) dX12_claim_48
def dq_X11_claimed : List Cond := [.fieldLink RX11 387 "DiskEvidence" "claimCount" "I"]
def wq_X11_claimed : List Cond := .code yX11_claimed cX11_claimed 3 (some .int) :: (dq_X11_claimed ++ (wsX110))
theorem inq_X11_claimed_c11 : ∀ w ∈ wsX110, w ∈ wq_X11_claimed := fun w h => List.mem_cons_of_mem _ (List.mem_append_right _ (h))
theorem ga_X11_claimed : wq_X11_claimed.all goodWord = true := by decide +kernel
theorem tdq_X11_claimed : ∀ w ∈ dq_X11_claimed, w ∈ lw_tbl := fun w h => (goodIn_r (big := lw_tbl) dq_X11_claimed [598] (by decide +kernel) (by decide +kernel) w h).1
theorem tq_X11_claimed : ∀ w ∈ wq_X11_claimed, w ∈ lw_tbl := fun w h => (List.mem_cons.mp h).elim (fun e => by rw [e]; exact List.mem_of_getElem? (i := 2203) (by decide +kernel)) (fun h => (List.mem_append.mp h).elim (fun h => tdq_X11_claimed w h) (fun h => nX11 w h))
set_option maxHeartbeats 40000000 in
set_option maxRecDepth 100000 in
theorem c_X11_claimed (l : Launch) (dC : Nat → ClassId) (dI : Nat → Nat → Nat) (cI cB cZ cJ cC cP cV cT cO : ClassId) (sz : Nat) (h0 : Nat) (g : Nat → Nat)  (p0 : Int32) (p1 : Int32) : Met l yX11_claimed wq_X11_claimed ({ frames := 0, cells := 0, slots := 0, locals := 0 }) (va_Pc [.ref h0, .int p0, .int p1] (fun U => U.heap.size = sz ∧ va_P (dC, dI) vwCl [(h0, .inr (11, (fsX g)))] U.heap ∧ va_K (dC, dI) vwCl [(cI, .int), (cB, .byte), (cZ, .boolean), (cJ, .long), (cC, .char), (cP, .object "DiskEvidence$Picture"), (cV, .object "DiskEvidence$Volume"), (cT, .object "DiskEvidence$Tree"), (cO, .object "DiskEvidence$Opening")] U ∧ va_D (fun _ => True) [(h0, .inr (11, (fsX g)))])) (vp_Si (fun r : Int32 => r = (-2))) 0 0 (fun _ => False) := by
  refine Met.ofW (cc := cX11_claimed) (maxL := 3) (ret := (some .int)) (by decide) rfl ?_
  intro p e s m args below meth c s₁ B hml hv
  obtain ⟨rfl, hsz, hP, hK, hD0⟩ := hv
  have hx := B.exec
  have hb := B.bytes
  have hr := B.returns
  have hts := atoms_spec (ws := wq_X11_claimed) B.pre
  have hown : s.vm.findClass RX11 = some m.cls := findClass_of_methodNamed B.named
  have hlocks := B.notSynchronized
  subst hsz
  have hD := hD0.self (sz := s.heap.size)
  generalize hAe : va_A [(h0, .inr (11, (fsX g)))] s.heap.size = A at hD ⊢
  have hA : ∀ q : Nat, s.heap.size ≤ q → A q := fun q h => by rw [← hAe]; exact Or.inr h
  have hS : va_S A s.heap s.heap [] := va_S.rf
  have hl := lv_entry ([.ref h0, .int p0, .int p1]) (n := 3) (Nat.le_of_ble_eq_true rfl)
  rw [lg_entry_eq]
  generalize (lg_sl ([.ref h0, .int p0, .int p1]) ++ List.replicate (3 - (lg_sl ([.ref h0, .int p0, .int p1])).length) Slot.unset).toArray = ls at hl ⊢
  have hl : lv_has ls 3 [(0, .ref h0), (1, .int p0), (2, .int p1)] := hl
  refine lv_iload_n hx hb dX11_claimed_0 rfl (lv_at hl 1 rfl) ?_
  refine lv_if_lt (tgt := 21) hx hb dX11_claimed_1 (by decide) (fun c_1 => ?_) (fun c_1 => ?_)
  · refine lv_bipush (v := (-2)) hx hb dX11_claimed_21 (by decide) ?_
    exact W.iret (v := (-2)) hx hb hr (fun t ht hW => ⟨(-2), rfl, rfl, ht⟩) (fun _ h => by cases h) dX11_claimed_23
  · refine lv_iload_n hx hb dX11_claimed_4 rfl (lv_at hl 1 rfl) ?_
    refine lv_aload_n hx hb dX11_claimed_5 rfl (lv_at hl 0 rfl) ?_
    refine va_get (D := (dC, dI)) (ci := 11) (v := .int 0) (C := RX11) (T := TX11) (N := 20) hx hb hts inq_X11_claimed_c11 hown hK hP 0 rfl rfl 12 (by decide) (hts (.fieldLink RX11 387 "DiskEvidence" "claimCount" "I") (List.mem_of_getElem? (i := 1) rfl)) (fun _ h9 => h9) rfl dX11_claimed_6 ?_
    refine lv_icmp_ge (tgt := 21) hx hb dX11_claimed_9 (by decide) (fun _ => ?_) (fun c_2 => absurd (Int32.not_lt.mp c_1) c_2)
    refine lv_bipush (v := (-2)) hx hb dX11_claimed_21 (by decide) ?_
    exact W.iret (v := (-2)) hx hb hr (fun t ht hW => ⟨(-2), rfl, rfl, ht⟩) (fun _ h => by cases h) dX11_claimed_23
def dq_X12_claimed : List Cond := [.fieldLink RX12 1156 "DiskEvidenceModel" "claims" "I", .methodLink RX12 372 yX12_in, .static yX12_in, .initialized RX12]
def wq_X12_claimed : List Cond := .code yX12_claimed cX12_claimed 3 (some .int) :: (dq_X12_claimed ++ (wsX120 ++ (wq_X12_in)))
theorem inq_X12_claimed_c12 : ∀ w ∈ wsX120, w ∈ wq_X12_claimed := fun w h => List.mem_cons_of_mem _ (List.mem_append_right _ (List.mem_append_left _ h))
theorem mq_X12_claimed_X12_in : ∀ w ∈ wq_X12_in, w ∈ wq_X12_claimed := fun w h => List.mem_cons_of_mem _ (List.mem_append_right _ (List.mem_append_right _ (h)))
theorem ga_X12_claimed : wq_X12_claimed.all goodWord = true := by decide +kernel
theorem gq_X12_claimed_X12_in_372 : GoodIn wq_X12_claimed (va_wsS RX12 372 yX12_in wq_X12_in) := goodIn_app (goodIn_r _ [2, 3, 4] (by decide +kernel) (by decide +kernel)) (goodIn_sub mq_X12_claimed_X12_in ga_X12_in)
theorem tdq_X12_claimed : ∀ w ∈ dq_X12_claimed, w ∈ lw_tbl := fun w h => (goodIn_r (big := lw_tbl) dq_X12_claimed [2410, 2772, 2773, 296] (by decide +kernel) (by decide +kernel) w h).1
theorem tq_X12_claimed : ∀ w ∈ wq_X12_claimed, w ∈ lw_tbl := fun w h => (List.mem_cons.mp h).elim (fun e => by rw [e]; exact List.mem_of_getElem? (i := 3691) (by decide +kernel)) (fun h => (List.mem_append.mp h).elim (fun h => tdq_X12_claimed w h) (fun h => (List.mem_append.mp h).elim (fun h => nX12 w h) (fun h => tq_X12_in w h)))
set_option maxHeartbeats 40000000 in
set_option maxRecDepth 100000 in
theorem c_X12_claimed (l : Launch) (dC : Nat → ClassId) (dI : Nat → Nat → Nat) (cI cB cZ cJ cC cP cV cT cO : ClassId) (sz : Nat) (h0 : Nat) (g : Nat → Nat)  (p0 : Int32) (p1 : Int32) : Met l yX12_claimed wq_X12_claimed ({ frames := 1, cells := 0, slots := 0, locals := 25 }) (va_Pc [.ref h0, .int p0, .int p1] (fun U => U.heap.size = sz ∧ va_P (dC, dI) vwCl [(h0, .inr (12, (fsM g)))] U.heap ∧ va_K (dC, dI) vwCl [(cI, .int), (cB, .byte), (cZ, .boolean), (cJ, .long), (cC, .char), (cP, .object "DiskEvidence$Picture"), (cV, .object "DiskEvidence$Volume"), (cT, .object "DiskEvidence$Tree"), (cO, .object "DiskEvidence$Opening")] U ∧ va_D (fun _ => True) [(h0, .inr (12, (fsM g)))])) (vp_Si (fun r : Int32 => r = (-2))) 0 0 (fun _ => False) := by
  refine Met.ofW (cc := cX12_claimed) (maxL := 3) (ret := (some .int)) (by decide) rfl ?_
  intro p e s m args below meth c s₁ B hml hv
  obtain ⟨rfl, hsz, hP, hK, hD0⟩ := hv
  have hx := B.exec
  have hb := B.bytes
  have hr := B.returns
  have hts := atoms_spec (ws := wq_X12_claimed) B.pre
  have hown : s.vm.findClass RX12 = some m.cls := findClass_of_methodNamed B.named
  have hlocks := B.notSynchronized
  subst hsz
  have hD := hD0.self (sz := s.heap.size)
  generalize hAe : va_A [(h0, .inr (12, (fsM g)))] s.heap.size = A at hD ⊢
  have hA : ∀ q : Nat, s.heap.size ≤ q → A q := fun q h => by rw [← hAe]; exact Or.inr h
  have hS : va_S A s.heap s.heap [] := va_S.rf
  have hl := lv_entry ([.ref h0, .int p0, .int p1]) (n := 3) (Nat.le_of_ble_eq_true rfl)
  rw [lg_entry_eq]
  generalize (lg_sl ([.ref h0, .int p0, .int p1]) ++ List.replicate (3 - (lg_sl ([.ref h0, .int p0, .int p1])).length) Slot.unset).toArray = ls at hl ⊢
  have hl : lv_has ls 3 [(0, .ref h0), (1, .int p0), (2, .int p1)] := hl
  refine lv_iload_n hx hb dX12_claimed_0 rfl (lv_at hl 1 rfl) ?_
  refine lv_i2l hx hb dX12_claimed_1 rfl ?_
  refine lv_lconst (v := 0) hx hb dX12_claimed_2 (by decide) ?_
  refine lv_aload_n hx hb dX12_claimed_3 rfl (lv_at hl 0 rfl) ?_
  refine va_get (D := (dC, dI)) (ci := 12) (v := .int 0) (C := RX12) (T := TX12) (N := 172) hx hb hts inq_X12_claimed_c12 hown hK hP 0 rfl rfl 161 (by decide) (hts (.fieldLink RX12 1156 "DiskEvidenceModel" "claims" "I") (List.mem_of_getElem? (i := 1) rfl)) (fun _ h9 => h9) rfl dX12_claimed_4 ?_
  refine lv_iconst (v := 1) hx hb dX12_claimed_7 (by decide) ?_
  refine lv_isub hx hb dX12_claimed_8 ?_
  refine lv_topi (fun f_1 ef_1 => ?_)
  obtain rfl : (-1 : Int32) = f_1 := (ef_1.trans (by decide)).symm
  refine lv_i2l (v := (-1)) hx hb dX12_claimed_9 (by decide) ?_
  refine vp_callSi (va_Run.run (va_runS (As := [.long p0.toInt64, .long 0, .long (-1)]) (rest := []) ⟨hx, hb, hml, hown, hts⟩ (c_X12_in l p0.toInt64 0 (-1)) (va_cwS 3 hts gq_X12_claimed_X12_in_372 rfl rfl rfl (by decide +kernel) ⟨Nat.le_of_ble_eq_true rfl, Nat.le_of_ble_eq_true rfl⟩) ⟨fun a U g mk q => q, fun U hU hW => ⟨rfl, trivial⟩⟩ rfl rfl hl.1 rfl (lv_room (Nat.le_of_ble_eq_true rfl)) dX12_claimed_10 ⟨Nat.le_of_ble_eq_true rfl, Nat.le_of_ble_eq_true rfl⟩)) (fun r_2 hr_2 => ?_)
  rcases hr_2 with ⟨rfl, hlo_3, hhi_3⟩ | ⟨rfl, hno_3⟩
  · exact absurd (Int64.le_trans hlo_3 hhi_3) (by decide)
  · refine lv_if_ne (tgt := 19) hx hb dX12_claimed_13 (by decide) (fun c_4 => absurd (by decide) c_4) (fun _ => ?_)
    refine lv_bipush (v := (-2)) hx hb dX12_claimed_16 (by decide) ?_
    exact W.iret (v := (-2)) hx hb hr (fun t ht hW => ⟨(-2), rfl, rfl, ht⟩) (fun _ h => by cases h) dX12_claimed_18
def dq_X11_check : List Cond := [.fieldLink RX11 387 "DiskEvidence" "claimCount" "I"]
def wq_X11_check : List Cond := .code yX11_check cX11_check 8 (some .int) :: (dq_X11_check ++ (wsX110))
theorem inq_X11_check_c11 : ∀ w ∈ wsX110, w ∈ wq_X11_check := fun w h => List.mem_cons_of_mem _ (List.mem_append_right _ (h))
theorem ga_X11_check : wq_X11_check.all goodWord = true := by decide +kernel
theorem tdq_X11_check : ∀ w ∈ dq_X11_check, w ∈ lw_tbl := fun w h => (goodIn_r (big := lw_tbl) dq_X11_check [598] (by decide +kernel) (by decide +kernel) w h).1
theorem tq_X11_check : ∀ w ∈ wq_X11_check, w ∈ lw_tbl := fun w h => (List.mem_cons.mp h).elim (fun e => by rw [e]; exact List.mem_of_getElem? (i := 2207) (by decide +kernel)) (fun h => (List.mem_append.mp h).elim (fun h => tdq_X11_check w h) (fun h => nX11 w h))
set_option maxHeartbeats 40000000 in
set_option maxRecDepth 100000 in
theorem c_X11_check (l : Launch) (dC : Nat → ClassId) (dI : Nat → Nat → Nat) (cI cB cZ cJ cC cP cV cT cO : ClassId) (sz : Nat) (h0 : Nat) (g : Nat → Nat)  (p0 : Int32) : Met l yX11_check wq_X11_check ({ frames := 0, cells := 0, slots := 0, locals := 0 }) (va_Pc [.ref h0, .int p0] (fun U => U.heap.size = sz ∧ va_P (dC, dI) vwCl [(h0, .inr (11, (fsX g)))] U.heap ∧ va_K (dC, dI) vwCl [(cI, .int), (cB, .byte), (cZ, .boolean), (cJ, .long), (cC, .char), (cP, .object "DiskEvidence$Picture"), (cV, .object "DiskEvidence$Volume"), (cT, .object "DiskEvidence$Tree"), (cO, .object "DiskEvidence$Opening")] U ∧ va_D (fun _ => True) [(h0, .inr (11, (fsX g)))])) (vp_Si (fun r : Int32 => r = (-2))) 0 0 (fun _ => False) := by
  refine Met.ofW (cc := cX11_check) (maxL := 8) (ret := (some .int)) (by decide) rfl ?_
  intro p e s m args below meth c s₁ B hml hv
  obtain ⟨rfl, hsz, hP, hK, hD0⟩ := hv
  have hx := B.exec
  have hb := B.bytes
  have hr := B.returns
  have hts := atoms_spec (ws := wq_X11_check) B.pre
  have hown : s.vm.findClass RX11 = some m.cls := findClass_of_methodNamed B.named
  have hlocks := B.notSynchronized
  subst hsz
  have hD := hD0.self (sz := s.heap.size)
  generalize hAe : va_A [(h0, .inr (11, (fsX g)))] s.heap.size = A at hD ⊢
  have hA : ∀ q : Nat, s.heap.size ≤ q → A q := fun q h => by rw [← hAe]; exact Or.inr h
  have hS : va_S A s.heap s.heap [] := va_S.rf
  have hl := lv_entry ([.ref h0, .int p0]) (n := 8) (Nat.le_of_ble_eq_true rfl)
  rw [lg_entry_eq]
  generalize (lg_sl ([.ref h0, .int p0]) ++ List.replicate (8 - (lg_sl ([.ref h0, .int p0])).length) Slot.unset).toArray = ls at hl ⊢
  have hl : lv_has ls 8 [(0, .ref h0), (1, .int p0)] := hl
  refine lv_iload_n hx hb dX11_check_0 rfl (lv_at hl 1 rfl) ?_
  refine lv_if_lt (tgt := 12) hx hb dX11_check_1 (by decide) (fun c_1 => ?_) (fun c_1 => ?_)
  · refine lv_bipush (v := (-2)) hx hb dX11_check_12 (by decide) ?_
    exact W.iret (v := (-2)) hx hb hr (fun t ht hW => ⟨(-2), rfl, rfl, ht⟩) (fun _ h => by cases h) dX11_check_14
  · refine lv_iload_n hx hb dX11_check_4 rfl (lv_at hl 1 rfl) ?_
    refine lv_aload_n hx hb dX11_check_5 rfl (lv_at hl 0 rfl) ?_
    refine va_get (D := (dC, dI)) (ci := 11) (v := .int 0) (C := RX11) (T := TX11) (N := 20) hx hb hts inq_X11_check_c11 hown hK hP 0 rfl rfl 12 (by decide) (hts (.fieldLink RX11 387 "DiskEvidence" "claimCount" "I") (List.mem_of_getElem? (i := 1) rfl)) (fun _ h9 => h9) rfl dX11_check_6 ?_
    refine lv_icmp_lt (tgt := 15) hx hb dX11_check_9 (by decide) (fun c_2 => absurd c_2 c_1) (fun _ => ?_)
    refine lv_bipush (v := (-2)) hx hb dX11_check_12 (by decide) ?_
    exact W.iret (v := (-2)) hx hb hr (fun t ht hW => ⟨(-2), rfl, rfl, ht⟩) (fun _ h => by cases h) dX11_check_14
def dq_X12_check : List Cond := [.fieldLink RX12 1156 "DiskEvidenceModel" "claims" "I", .methodLink RX12 372 yX12_in, .static yX12_in, .initialized RX12]
def wq_X12_check : List Cond := .code yX12_check cX12_check 8 (some .int) :: (dq_X12_check ++ (wsX120 ++ (wq_X12_in)))
theorem inq_X12_check_c12 : ∀ w ∈ wsX120, w ∈ wq_X12_check := fun w h => List.mem_cons_of_mem _ (List.mem_append_right _ (List.mem_append_left _ h))
theorem mq_X12_check_X12_in : ∀ w ∈ wq_X12_in, w ∈ wq_X12_check := fun w h => List.mem_cons_of_mem _ (List.mem_append_right _ (List.mem_append_right _ (h)))
theorem ga_X12_check : wq_X12_check.all goodWord = true := by decide +kernel
theorem gq_X12_check_X12_in_372 : GoodIn wq_X12_check (va_wsS RX12 372 yX12_in wq_X12_in) := goodIn_app (goodIn_r _ [2, 3, 4] (by decide +kernel) (by decide +kernel)) (goodIn_sub mq_X12_check_X12_in ga_X12_in)
theorem tdq_X12_check : ∀ w ∈ dq_X12_check, w ∈ lw_tbl := fun w h => (goodIn_r (big := lw_tbl) dq_X12_check [2410, 2772, 2773, 296] (by decide +kernel) (by decide +kernel) w h).1
theorem tq_X12_check : ∀ w ∈ wq_X12_check, w ∈ lw_tbl := fun w h => (List.mem_cons.mp h).elim (fun e => by rw [e]; exact List.mem_of_getElem? (i := 3695) (by decide +kernel)) (fun h => (List.mem_append.mp h).elim (fun h => tdq_X12_check w h) (fun h => (List.mem_append.mp h).elim (fun h => nX12 w h) (fun h => tq_X12_in w h)))
set_option maxHeartbeats 40000000 in
set_option maxRecDepth 100000 in
theorem c_X12_check (l : Launch) (dC : Nat → ClassId) (dI : Nat → Nat → Nat) (cI cB cZ cJ cC cP cV cT cO : ClassId) (sz : Nat) (h0 : Nat) (g : Nat → Nat)  (p0 : Int32) : Met l yX12_check wq_X12_check ({ frames := 1, cells := 0, slots := 0, locals := 25 }) (va_Pc [.ref h0, .int p0] (fun U => U.heap.size = sz ∧ va_P (dC, dI) vwCl [(h0, .inr (12, (fsM g)))] U.heap ∧ va_K (dC, dI) vwCl [(cI, .int), (cB, .byte), (cZ, .boolean), (cJ, .long), (cC, .char), (cP, .object "DiskEvidence$Picture"), (cV, .object "DiskEvidence$Volume"), (cT, .object "DiskEvidence$Tree"), (cO, .object "DiskEvidence$Opening")] U ∧ va_D (fun _ => True) [(h0, .inr (12, (fsM g)))])) (vp_Si (fun r : Int32 => r = (-2))) 0 0 (fun _ => False) := by
  refine Met.ofW (cc := cX12_check) (maxL := 8) (ret := (some .int)) (by decide) rfl ?_
  intro p e s m args below meth c s₁ B hml hv
  obtain ⟨rfl, hsz, hP, hK, hD0⟩ := hv
  have hx := B.exec
  have hb := B.bytes
  have hr := B.returns
  have hts := atoms_spec (ws := wq_X12_check) B.pre
  have hown : s.vm.findClass RX12 = some m.cls := findClass_of_methodNamed B.named
  have hlocks := B.notSynchronized
  subst hsz
  have hD := hD0.self (sz := s.heap.size)
  generalize hAe : va_A [(h0, .inr (12, (fsM g)))] s.heap.size = A at hD ⊢
  have hA : ∀ q : Nat, s.heap.size ≤ q → A q := fun q h => by rw [← hAe]; exact Or.inr h
  have hS : va_S A s.heap s.heap [] := va_S.rf
  have hl := lv_entry ([.ref h0, .int p0]) (n := 8) (Nat.le_of_ble_eq_true rfl)
  rw [lg_entry_eq]
  generalize (lg_sl ([.ref h0, .int p0]) ++ List.replicate (8 - (lg_sl ([.ref h0, .int p0])).length) Slot.unset).toArray = ls at hl ⊢
  have hl : lv_has ls 8 [(0, .ref h0), (1, .int p0)] := hl
  refine lv_iload_n hx hb dX12_check_0 rfl (lv_at hl 1 rfl) ?_
  refine lv_i2l hx hb dX12_check_1 rfl ?_
  refine lv_lconst (v := 0) hx hb dX12_check_2 (by decide) ?_
  refine lv_aload_n hx hb dX12_check_3 rfl (lv_at hl 0 rfl) ?_
  refine va_get (D := (dC, dI)) (ci := 12) (v := .int 0) (C := RX12) (T := TX12) (N := 172) hx hb hts inq_X12_check_c12 hown hK hP 0 rfl rfl 161 (by decide) (hts (.fieldLink RX12 1156 "DiskEvidenceModel" "claims" "I") (List.mem_of_getElem? (i := 1) rfl)) (fun _ h9 => h9) rfl dX12_check_4 ?_
  refine lv_iconst (v := 1) hx hb dX12_check_7 (by decide) ?_
  refine lv_isub hx hb dX12_check_8 ?_
  refine lv_topi (fun f_1 ef_1 => ?_)
  obtain rfl : (-1 : Int32) = f_1 := (ef_1.trans (by decide)).symm
  refine lv_i2l (v := (-1)) hx hb dX12_check_9 (by decide) ?_
  refine vp_callSi (va_Run.run (va_runS (As := [.long p0.toInt64, .long 0, .long (-1)]) (rest := []) ⟨hx, hb, hml, hown, hts⟩ (c_X12_in l p0.toInt64 0 (-1)) (va_cwS 3 hts gq_X12_check_X12_in_372 rfl rfl rfl (by decide +kernel) ⟨Nat.le_of_ble_eq_true rfl, Nat.le_of_ble_eq_true rfl⟩) ⟨fun a U g mk q => q, fun U hU hW => ⟨rfl, trivial⟩⟩ rfl rfl hl.1 rfl (lv_room (Nat.le_of_ble_eq_true rfl)) dX12_check_10 ⟨Nat.le_of_ble_eq_true rfl, Nat.le_of_ble_eq_true rfl⟩)) (fun r_2 hr_2 => ?_)
  rcases hr_2 with ⟨rfl, hlo_3, hhi_3⟩ | ⟨rfl, hno_3⟩
  · exact absurd (Int64.le_trans hlo_3 hhi_3) (by decide)
  · refine lv_if_ne (tgt := 19) hx hb dX12_check_13 (by decide) (fun c_4 => absurd (by decide) c_4) (fun _ => ?_)
    refine lv_bipush (v := (-2)) hx hb dX12_check_16 (by decide) ?_
    exact W.iret (v := (-2)) hx hb hr (fun t ht hW => ⟨(-2), rfl, rfl, ht⟩) (fun _ h => by cases h) dX12_check_18
def dq_X11_alter : List Cond := [.fieldLink RX11 416 "DiskEvidence" "actCount" "I"]
def wq_X11_alter : List Cond := .code yX11_alter cX11_alter 5 (some .int) :: (dq_X11_alter ++ (wsX110))
theorem inq_X11_alter_c11 : ∀ w ∈ wsX110, w ∈ wq_X11_alter := fun w h => List.mem_cons_of_mem _ (List.mem_append_right _ (h))
theorem ga_X11_alter : wq_X11_alter.all goodWord = true := by decide +kernel
theorem tdq_X11_alter : ∀ w ∈ dq_X11_alter, w ∈ lw_tbl := fun w h => (goodIn_r (big := lw_tbl) dq_X11_alter [605] (by decide +kernel) (by decide +kernel) w h).1
theorem tq_X11_alter : ∀ w ∈ wq_X11_alter, w ∈ lw_tbl := fun w h => (List.mem_cons.mp h).elim (fun e => by rw [e]; exact List.mem_of_getElem? (i := 2230) (by decide +kernel)) (fun h => (List.mem_append.mp h).elim (fun h => tdq_X11_alter w h) (fun h => nX11 w h))
set_option maxHeartbeats 40000000 in
set_option maxRecDepth 100000 in
theorem c_X11_alter (l : Launch) (dC : Nat → ClassId) (dI : Nat → Nat → Nat) (cI cB cZ cJ cC cP cV cT cO : ClassId) (sz : Nat) (h0 : Nat) (g : Nat → Nat)  (p0 : Int32) (p1 : Int32) (p2 : Int32) : Met l yX11_alter wq_X11_alter ({ frames := 0, cells := 0, slots := 0, locals := 0 }) (va_Pc [.ref h0, .int p0, .int p1, .int p2] (fun U => U.heap.size = sz ∧ va_P (dC, dI) vwCl [(h0, .inr (11, (fsX g)))] U.heap ∧ va_K (dC, dI) vwCl [(cI, .int), (cB, .byte), (cZ, .boolean), (cJ, .long), (cC, .char), (cP, .object "DiskEvidence$Picture"), (cV, .object "DiskEvidence$Volume"), (cT, .object "DiskEvidence$Tree"), (cO, .object "DiskEvidence$Opening")] U ∧ va_D (fun _ => True) [(h0, .inr (11, (fsX g)))])) (vp_Si (fun r : Int32 => r = (-2))) 0 0 (fun _ => False) := by
  refine Met.ofW (cc := cX11_alter) (maxL := 5) (ret := (some .int)) (by decide) rfl ?_
  intro p e s m args below meth c s₁ B hml hv
  obtain ⟨rfl, hsz, hP, hK, hD0⟩ := hv
  have hx := B.exec
  have hb := B.bytes
  have hr := B.returns
  have hts := atoms_spec (ws := wq_X11_alter) B.pre
  have hown : s.vm.findClass RX11 = some m.cls := findClass_of_methodNamed B.named
  have hlocks := B.notSynchronized
  subst hsz
  have hD := hD0.self (sz := s.heap.size)
  generalize hAe : va_A [(h0, .inr (11, (fsX g)))] s.heap.size = A at hD ⊢
  have hA : ∀ q : Nat, s.heap.size ≤ q → A q := fun q h => by rw [← hAe]; exact Or.inr h
  have hS : va_S A s.heap s.heap [] := va_S.rf
  have hl := lv_entry ([.ref h0, .int p0, .int p1, .int p2]) (n := 5) (Nat.le_of_ble_eq_true rfl)
  rw [lg_entry_eq]
  generalize (lg_sl ([.ref h0, .int p0, .int p1, .int p2]) ++ List.replicate (5 - (lg_sl ([.ref h0, .int p0, .int p1, .int p2])).length) Slot.unset).toArray = ls at hl ⊢
  have hl : lv_has ls 5 [(0, .ref h0), (1, .int p0), (2, .int p1), (3, .int p2)] := hl
  refine lv_iload_n hx hb dX11_alter_0 rfl (lv_at hl 1 rfl) ?_
  refine lv_if_lt (tgt := 21) hx hb dX11_alter_1 (by decide) (fun c_1 => ?_) (fun c_1 => ?_)
  · refine lv_bipush (v := (-2)) hx hb dX11_alter_21 (by decide) ?_
    exact W.iret (v := (-2)) hx hb hr (fun t ht hW => ⟨(-2), rfl, rfl, ht⟩) (fun _ h => by cases h) dX11_alter_23
  · refine lv_iload_n hx hb dX11_alter_4 rfl (lv_at hl 1 rfl) ?_
    refine lv_aload_n hx hb dX11_alter_5 rfl (lv_at hl 0 rfl) ?_
    refine va_get (D := (dC, dI)) (ci := 11) (v := .int 0) (C := RX11) (T := TX11) (N := 20) hx hb hts inq_X11_alter_c11 hown hK hP 0 rfl rfl 19 (by decide) (hts (.fieldLink RX11 416 "DiskEvidence" "actCount" "I") (List.mem_of_getElem? (i := 1) rfl)) (fun _ h9 => h9) rfl dX11_alter_6 ?_
    refine lv_icmp_ge (tgt := 21) hx hb dX11_alter_9 (by decide) (fun _ => ?_) (fun c_2 => absurd (Int32.not_lt.mp c_1) c_2)
    refine lv_bipush (v := (-2)) hx hb dX11_alter_21 (by decide) ?_
    exact W.iret (v := (-2)) hx hb hr (fun t ht hW => ⟨(-2), rfl, rfl, ht⟩) (fun _ h => by cases h) dX11_alter_23
def dq_X12_alter : List Cond := [.fieldLink RX12 366 "DiskEvidenceModel" "acts" "I", .methodLink RX12 372 yX12_in, .static yX12_in, .initialized RX12]
def wq_X12_alter : List Cond := .code yX12_alter cX12_alter 5 (some .int) :: (dq_X12_alter ++ (wsX120 ++ (wq_X12_in)))
theorem inq_X12_alter_c12 : ∀ w ∈ wsX120, w ∈ wq_X12_alter := fun w h => List.mem_cons_of_mem _ (List.mem_append_right _ (List.mem_append_left _ h))
theorem mq_X12_alter_X12_in : ∀ w ∈ wq_X12_in, w ∈ wq_X12_alter := fun w h => List.mem_cons_of_mem _ (List.mem_append_right _ (List.mem_append_right _ (h)))
theorem ga_X12_alter : wq_X12_alter.all goodWord = true := by decide +kernel
theorem gq_X12_alter_X12_in_372 : GoodIn wq_X12_alter (va_wsS RX12 372 yX12_in wq_X12_in) := goodIn_app (goodIn_r _ [2, 3, 4] (by decide +kernel) (by decide +kernel)) (goodIn_sub mq_X12_alter_X12_in ga_X12_in)
theorem tdq_X12_alter : ∀ w ∈ dq_X12_alter, w ∈ lw_tbl := fun w h => (goodIn_r (big := lw_tbl) dq_X12_alter [2416, 2772, 2773, 296] (by decide +kernel) (by decide +kernel) w h).1
theorem tq_X12_alter : ∀ w ∈ wq_X12_alter, w ∈ lw_tbl := fun w h => (List.mem_cons.mp h).elim (fun e => by rw [e]; exact List.mem_of_getElem? (i := 3718) (by decide +kernel)) (fun h => (List.mem_append.mp h).elim (fun h => tdq_X12_alter w h) (fun h => (List.mem_append.mp h).elim (fun h => nX12 w h) (fun h => tq_X12_in w h)))
set_option maxHeartbeats 40000000 in
set_option maxRecDepth 100000 in
theorem c_X12_alter (l : Launch) (dC : Nat → ClassId) (dI : Nat → Nat → Nat) (cI cB cZ cJ cC cP cV cT cO : ClassId) (sz : Nat) (h0 : Nat) (g : Nat → Nat)  (p0 : Int32) (p1 : Int32) (p2 : Int32) : Met l yX12_alter wq_X12_alter ({ frames := 1, cells := 0, slots := 0, locals := 25 }) (va_Pc [.ref h0, .int p0, .int p1, .int p2] (fun U => U.heap.size = sz ∧ va_P (dC, dI) vwCl [(h0, .inr (12, (fsM g)))] U.heap ∧ va_K (dC, dI) vwCl [(cI, .int), (cB, .byte), (cZ, .boolean), (cJ, .long), (cC, .char), (cP, .object "DiskEvidence$Picture"), (cV, .object "DiskEvidence$Volume"), (cT, .object "DiskEvidence$Tree"), (cO, .object "DiskEvidence$Opening")] U ∧ va_D (fun _ => True) [(h0, .inr (12, (fsM g)))])) (vp_Si (fun r : Int32 => r = (-2))) 0 0 (fun _ => False) := by
  refine Met.ofW (cc := cX12_alter) (maxL := 5) (ret := (some .int)) (by decide) rfl ?_
  intro p e s m args below meth c s₁ B hml hv
  obtain ⟨rfl, hsz, hP, hK, hD0⟩ := hv
  have hx := B.exec
  have hb := B.bytes
  have hr := B.returns
  have hts := atoms_spec (ws := wq_X12_alter) B.pre
  have hown : s.vm.findClass RX12 = some m.cls := findClass_of_methodNamed B.named
  have hlocks := B.notSynchronized
  subst hsz
  have hD := hD0.self (sz := s.heap.size)
  generalize hAe : va_A [(h0, .inr (12, (fsM g)))] s.heap.size = A at hD ⊢
  have hA : ∀ q : Nat, s.heap.size ≤ q → A q := fun q h => by rw [← hAe]; exact Or.inr h
  have hS : va_S A s.heap s.heap [] := va_S.rf
  have hl := lv_entry ([.ref h0, .int p0, .int p1, .int p2]) (n := 5) (Nat.le_of_ble_eq_true rfl)
  rw [lg_entry_eq]
  generalize (lg_sl ([.ref h0, .int p0, .int p1, .int p2]) ++ List.replicate (5 - (lg_sl ([.ref h0, .int p0, .int p1, .int p2])).length) Slot.unset).toArray = ls at hl ⊢
  have hl : lv_has ls 5 [(0, .ref h0), (1, .int p0), (2, .int p1), (3, .int p2)] := hl
  refine lv_iload_n hx hb dX12_alter_0 rfl (lv_at hl 1 rfl) ?_
  refine lv_i2l hx hb dX12_alter_1 rfl ?_
  refine lv_lconst (v := 0) hx hb dX12_alter_2 (by decide) ?_
  refine lv_aload_n hx hb dX12_alter_3 rfl (lv_at hl 0 rfl) ?_
  refine va_get (D := (dC, dI)) (ci := 12) (v := .int 0) (C := RX12) (T := TX12) (N := 172) hx hb hts inq_X12_alter_c12 hown hK hP 0 rfl rfl 167 (by decide) (hts (.fieldLink RX12 366 "DiskEvidenceModel" "acts" "I") (List.mem_of_getElem? (i := 1) rfl)) (fun _ h9 => h9) rfl dX12_alter_4 ?_
  refine lv_iconst (v := 1) hx hb dX12_alter_7 (by decide) ?_
  refine lv_isub hx hb dX12_alter_8 ?_
  refine lv_topi (fun f_1 ef_1 => ?_)
  obtain rfl : (-1 : Int32) = f_1 := (ef_1.trans (by decide)).symm
  refine lv_i2l (v := (-1)) hx hb dX12_alter_9 (by decide) ?_
  refine vp_callSi (va_Run.run (va_runS (As := [.long p0.toInt64, .long 0, .long (-1)]) (rest := []) ⟨hx, hb, hml, hown, hts⟩ (c_X12_in l p0.toInt64 0 (-1)) (va_cwS 3 hts gq_X12_alter_X12_in_372 rfl rfl rfl (by decide +kernel) ⟨Nat.le_of_ble_eq_true rfl, Nat.le_of_ble_eq_true rfl⟩) ⟨fun a U g mk q => q, fun U hU hW => ⟨rfl, trivial⟩⟩ rfl rfl hl.1 rfl (lv_room (Nat.le_of_ble_eq_true rfl)) dX12_alter_10 ⟨Nat.le_of_ble_eq_true rfl, Nat.le_of_ble_eq_true rfl⟩)) (fun r_2 hr_2 => ?_)
  rcases hr_2 with ⟨rfl, hlo_3, hhi_3⟩ | ⟨rfl, hno_3⟩
  · exact absurd (Int64.le_trans hlo_3 hhi_3) (by decide)
  · refine lv_if_eq (tgt := 28) hx hb dX12_alter_13 (by decide) (fun _ => ?_) (fun c_4 => absurd (by decide) c_4)
    refine lv_bipush (v := (-2)) hx hb dX12_alter_28 (by decide) ?_
    exact W.iret (v := (-2)) hx hb hr (fun t ht hW => ⟨(-2), rfl, rfl, ht⟩) (fun _ h => by cases h) dX12_alter_30
def dq_X11_forget : List Cond := [.fieldLink RX11 76 "DiskEvidence" "collectedCount" "I"]
def wq_X11_forget : List Cond := .code yX11_forget cX11_forget 2 (some .int) :: (dq_X11_forget ++ (wsX110))
theorem inq_X11_forget_c11 : ∀ w ∈ wsX110, w ∈ wq_X11_forget := fun w h => List.mem_cons_of_mem _ (List.mem_append_right _ (h))
theorem ga_X11_forget : wq_X11_forget.all goodWord = true := by decide +kernel
theorem tdq_X11_forget : ∀ w ∈ dq_X11_forget, w ∈ lw_tbl := fun w h => (goodIn_r (big := lw_tbl) dq_X11_forget [587] (by decide +kernel) (by decide +kernel) w h).1
theorem tq_X11_forget : ∀ w ∈ wq_X11_forget, w ∈ lw_tbl := fun w h => (List.mem_cons.mp h).elim (fun e => by rw [e]; exact List.mem_of_getElem? (i := 654) (by decide +kernel)) (fun h => (List.mem_append.mp h).elim (fun h => tdq_X11_forget w h) (fun h => nX11 w h))
set_option maxHeartbeats 40000000 in
set_option maxRecDepth 100000 in
theorem c_X11_forget (l : Launch) (dC : Nat → ClassId) (dI : Nat → Nat → Nat) (cI cB cZ cJ cC cP cV cT cO : ClassId) (sz : Nat) (h0 : Nat) (g : Nat → Nat)   : Met l yX11_forget wq_X11_forget ({ frames := 0, cells := 0, slots := 0, locals := 0 }) (va_Pc [.ref h0] (fun U => U.heap.size = sz ∧ va_P (dC, dI) vwCl [(h0, .inr (11, (fsX g)))] U.heap ∧ va_K (dC, dI) vwCl [(cI, .int), (cB, .byte), (cZ, .boolean), (cJ, .long), (cC, .char), (cP, .object "DiskEvidence$Picture"), (cV, .object "DiskEvidence$Volume"), (cT, .object "DiskEvidence$Tree"), (cO, .object "DiskEvidence$Opening")] U ∧ va_D (fun _ => True) [(h0, .inr (11, (fsX g)))])) (va_Qi (fun (r : Int32) (_ : Unit) => r = 0) (fun _ t => va_P (dC, dI) vwCl [(h0, .inr (11, (fsX g)))] t.heap ∧ va_D (va_A [(h0, .inr (11, (fsX g)))] sz) [(h0, .inr (11, (fsX g)))]) (va_A [(h0, .inr (11, (fsX g)))] sz)) 0 0 (va_A [(h0, .inr (11, (fsX g)))] sz) := by
  refine Met.ofW (cc := cX11_forget) (maxL := 2) (ret := (some .int)) (by decide) rfl ?_
  intro p e s m args below meth c s₁ B hml hv
  obtain ⟨rfl, hsz, hP, hK, hD0⟩ := hv
  have hx := B.exec
  have hb := B.bytes
  have hr := B.returns
  have hts := atoms_spec (ws := wq_X11_forget) B.pre
  have hown : s.vm.findClass RX11 = some m.cls := findClass_of_methodNamed B.named
  have hlocks := B.notSynchronized
  subst hsz
  have hD := hD0.self (sz := s.heap.size)
  generalize hAe : va_A [(h0, .inr (11, (fsX g)))] s.heap.size = A at hD ⊢
  have hA : ∀ q : Nat, s.heap.size ≤ q → A q := fun q h => by rw [← hAe]; exact Or.inr h
  have hS : va_S A s.heap s.heap [] := va_S.rf
  have hl := lv_entry ([.ref h0]) (n := 2) (Nat.le_of_ble_eq_true rfl)
  rw [lg_entry_eq]
  generalize (lg_sl ([.ref h0]) ++ List.replicate (2 - (lg_sl ([.ref h0])).length) Slot.unset).toArray = ls at hl ⊢
  have hl : lv_has ls 2 [(0, .ref h0)] := hl
  refine lv_aload_n hx hb dX11_forget_0 rfl (lv_at hl 0 rfl) ?_
  refine va_get (D := (dC, dI)) (ci := 11) (v := .int 0) (C := RX11) (T := TX11) (N := 20) hx hb hts inq_X11_forget_c11 hown hK hP 0 rfl rfl 1 (by decide) (hts (.fieldLink RX11 76 "DiskEvidence" "collectedCount" "I") (List.mem_of_getElem? (i := 1) rfl)) (fun _ h9 => h9) rfl dX11_forget_1 ?_
  refine lv_istore_n (lv' := [(1, .int 0), (0, .ref h0)]) hx hb dX11_forget_4 rfl hl (by decide) rfl (fun ls hl => ?_)
  refine lv_aload_n hx hb dX11_forget_5 rfl (lv_at hl 1 rfl) ?_
  refine lv_iconst (v := 0) hx hb dX11_forget_6 (by decide) ?_
  refine va_put (D := (dC, dI)) (ci := 11) (v := .int 0) (ty := .int) (C := RX11) (T := TX11) (N := 20) hx hb hts inq_X11_forget_c11 tyX11 tyX11_ok nmX11 hown hK hP hD hS 0 rfl rfl 1 (by decide) (hts (.fieldLink RX11 76 "DiskEvidence" "collectedCount" "I") (List.mem_of_getElem? (i := 1) rfl)) (fun _ h9 => h9) rfl (by decide +kernel) rfl rfl (Nat.le_of_ble_eq_true rfl) dX11_forget_7 (fun H locs hP hD hS => ?_)
  have hP : va_P (dC, dI) vwCl [(h0, .inr (11, ((fsX g).set 1 (.int 0))))] H := hP
  have hD : va_D A [(h0, .inr (11, ((fsX g).set 1 (.int 0))))] := hD
  refine lv_iload_n hx hb dX11_forget_10 rfl (lv_at hl 0 rfl) ?_
  have hP9 : va_P (dC, dI) vwCl [(h0, .inr (11, (fsX g)))] H := hP
  have hD9 : va_D A [(h0, .inr (11, (fsX g)))] := hD
  exact W.iret (v := 0) hx hb hr (fun t ht hW => ⟨⟨0, (), rfl, rfl, by rw [ht]; exact hP9, hD9⟩, hS.F ht⟩) hS.2.2 dX11_forget_11
def dq_X12_forget : List Cond := [.fieldLink RX12 376 "DiskEvidenceModel" "many" "I"]
def wq_X12_forget : List Cond := .code yX12_forget cX12_forget 2 (some .int) :: (dq_X12_forget ++ (wsX120))
theorem inq_X12_forget_c12 : ∀ w ∈ wsX120, w ∈ wq_X12_forget := fun w h => List.mem_cons_of_mem _ (List.mem_append_right _ (h))
theorem ga_X12_forget : wq_X12_forget.all goodWord = true := by decide +kernel
theorem tdq_X12_forget : ∀ w ∈ dq_X12_forget, w ∈ lw_tbl := fun w h => (goodIn_r (big := lw_tbl) dq_X12_forget [2249] (by decide +kernel) (by decide +kernel) w h).1
theorem tq_X12_forget : ∀ w ∈ wq_X12_forget, w ∈ lw_tbl := fun w h => (List.mem_cons.mp h).elim (fun e => by rw [e]; exact List.mem_of_getElem? (i := 2779) (by decide +kernel)) (fun h => (List.mem_append.mp h).elim (fun h => tdq_X12_forget w h) (fun h => nX12 w h))
set_option maxHeartbeats 40000000 in
set_option maxRecDepth 100000 in
theorem c_X12_forget (l : Launch) (dC : Nat → ClassId) (dI : Nat → Nat → Nat) (cI cB cZ cJ cC cP cV cT cO : ClassId) (sz : Nat) (h0 : Nat) (g : Nat → Nat)   : Met l yX12_forget wq_X12_forget ({ frames := 0, cells := 0, slots := 0, locals := 0 }) (va_Pc [.ref h0] (fun U => U.heap.size = sz ∧ va_P (dC, dI) vwCl [(h0, .inr (12, (fsM g)))] U.heap ∧ va_K (dC, dI) vwCl [(cI, .int), (cB, .byte), (cZ, .boolean), (cJ, .long), (cC, .char), (cP, .object "DiskEvidence$Picture"), (cV, .object "DiskEvidence$Volume"), (cT, .object "DiskEvidence$Tree"), (cO, .object "DiskEvidence$Opening")] U ∧ va_D (fun _ => True) [(h0, .inr (12, (fsM g)))])) (va_Qi (fun (r : Int32) (_ : Unit) => r = 0) (fun _ t => va_P (dC, dI) vwCl [(h0, .inr (12, (fsM g)))] t.heap ∧ va_D (va_A [(h0, .inr (12, (fsM g)))] sz) [(h0, .inr (12, (fsM g)))]) (va_A [(h0, .inr (12, (fsM g)))] sz)) 0 0 (va_A [(h0, .inr (12, (fsM g)))] sz) := by
  refine Met.ofW (cc := cX12_forget) (maxL := 2) (ret := (some .int)) (by decide) rfl ?_
  intro p e s m args below meth c s₁ B hml hv
  obtain ⟨rfl, hsz, hP, hK, hD0⟩ := hv
  have hx := B.exec
  have hb := B.bytes
  have hr := B.returns
  have hts := atoms_spec (ws := wq_X12_forget) B.pre
  have hown : s.vm.findClass RX12 = some m.cls := findClass_of_methodNamed B.named
  have hlocks := B.notSynchronized
  subst hsz
  have hD := hD0.self (sz := s.heap.size)
  generalize hAe : va_A [(h0, .inr (12, (fsM g)))] s.heap.size = A at hD ⊢
  have hA : ∀ q : Nat, s.heap.size ≤ q → A q := fun q h => by rw [← hAe]; exact Or.inr h
  have hS : va_S A s.heap s.heap [] := va_S.rf
  have hl := lv_entry ([.ref h0]) (n := 2) (Nat.le_of_ble_eq_true rfl)
  rw [lg_entry_eq]
  generalize (lg_sl ([.ref h0]) ++ List.replicate (2 - (lg_sl ([.ref h0])).length) Slot.unset).toArray = ls at hl ⊢
  have hl : lv_has ls 2 [(0, .ref h0)] := hl
  refine lv_aload_n hx hb dX12_forget_0 rfl (lv_at hl 0 rfl) ?_
  refine va_get (D := (dC, dI)) (ci := 12) (v := .int 0) (C := RX12) (T := TX12) (N := 172) hx hb hts inq_X12_forget_c12 hown hK hP 0 rfl rfl 0 (by decide) (hts (.fieldLink RX12 376 "DiskEvidenceModel" "many" "I") (List.mem_of_getElem? (i := 1) rfl)) (fun _ h9 => h9) rfl dX12_forget_1 ?_
  refine lv_istore_n (lv' := [(1, .int 0), (0, .ref h0)]) hx hb dX12_forget_4 rfl hl (by decide) rfl (fun ls hl => ?_)
  refine lv_aload_n hx hb dX12_forget_5 rfl (lv_at hl 1 rfl) ?_
  refine lv_iconst (v := 0) hx hb dX12_forget_6 (by decide) ?_
  refine va_put (D := (dC, dI)) (ci := 12) (v := .int 0) (ty := .int) (C := RX12) (T := TX12) (N := 172) hx hb hts inq_X12_forget_c12 tyX12 tyX12_ok nmX12 hown hK hP hD hS 0 rfl rfl 0 (by decide) (hts (.fieldLink RX12 376 "DiskEvidenceModel" "many" "I") (List.mem_of_getElem? (i := 1) rfl)) (fun _ h9 => h9) rfl (by decide +kernel) rfl rfl (Nat.le_of_ble_eq_true rfl) dX12_forget_7 (fun H locs hP hD hS => ?_)
  have hP : va_P (dC, dI) vwCl [(h0, .inr (12, ((fsM g).set 0 (.int 0))))] H := hP
  have hD : va_D A [(h0, .inr (12, ((fsM g).set 0 (.int 0))))] := hD
  refine lv_iload_n hx hb dX12_forget_10 rfl (lv_at hl 0 rfl) ?_
  have hP9 : va_P (dC, dI) vwCl [(h0, .inr (12, (fsM g)))] H := hP
  have hD9 : va_D A [(h0, .inr (12, (fsM g)))] := hD
  exact W.iret (v := 0) hx hb hr (fun t ht hW => ⟨⟨0, (), rfl, rfl, by rw [ht]; exact hP9, hD9⟩, hS.F ht⟩) hS.2.2 dX12_forget_11
def dq_X11_packedFault : List Cond := []
def wq_X11_packedFault : List Cond := .code yX11_packedFault cX11_packedFault 6 (some .int) :: (dq_X11_packedFault)
theorem ga_X11_packedFault : wq_X11_packedFault.all goodWord = true := by decide +kernel
theorem tdq_X11_packedFault : ∀ w ∈ dq_X11_packedFault, w ∈ lw_tbl := fun w h => (goodIn_r (big := lw_tbl) dq_X11_packedFault [] (by decide +kernel) (by decide +kernel) w h).1
theorem tq_X11_packedFault : ∀ w ∈ wq_X11_packedFault, w ∈ lw_tbl := fun w h => (List.mem_cons.mp h).elim (fun e => by rw [e]; exact List.mem_of_getElem? (i := 703) (by decide +kernel)) (fun h => tdq_X11_packedFault w h)
set_option maxHeartbeats 40000000 in
set_option maxRecDepth 100000 in
theorem c_X11_packedFault (l : Launch) (a : Nat) : Met l yX11_packedFault wq_X11_packedFault ({ frames := 0, cells := 0, slots := 0, locals := 0 }) (va_Pc [.ref a, .int 0] (fun U => True)) (vp_Si (fun r : Int32 => r = 0)) 0 0 (fun _ => False) := by
  refine Met.ofW (cc := cX11_packedFault) (maxL := 6) (ret := (some .int)) (by decide) rfl ?_
  intro p e s m args below meth c s₁ B hml hv
  obtain ⟨rfl, -⟩ := hv
  have hx := B.exec
  have hb := B.bytes
  have hr := B.returns
  have hts := atoms_spec (ws := wq_X11_packedFault) B.pre
  have hown : s.vm.findClass RX11 = some m.cls := findClass_of_methodNamed B.named
  have hlocks := B.notSynchronized
  have hl := lv_entry ([.ref a, .int 0]) (n := 6) (Nat.le_of_ble_eq_true rfl)
  rw [lg_entry_eq]
  generalize (lg_sl ([.ref a, .int 0]) ++ List.replicate (6 - (lg_sl ([.ref a, .int 0])).length) Slot.unset).toArray = ls at hl ⊢
  have hl : lv_has ls 6 [(0, .ref a), (1, .int 0)] := hl
  refine lv_iload_n hx hb dX11_packedFault_0 rfl (lv_at hl 1 rfl) ?_
  refine lv_iconst (v := 1) hx hb dX11_packedFault_1 (by decide) ?_
  refine lv_icmp_lt (tgt := 13) hx hb dX11_packedFault_2 (by decide) (fun _ => ?_) (fun c_1 => absurd (by decide) c_1)
  refine lv_iconst (v := 0) hx hb dX11_packedFault_13 (by decide) ?_
  exact W.iret (v := 0) hx hb hr (fun t ht hW => ⟨0, rfl, rfl, ht⟩) (fun _ h => by cases h) dX11_packedFault_14
def dq_X11_picture : List Cond := [.fieldLink RX11 85 "DiskEvidence" "pictureCount" "I", .methodLink RX11 91 yX11_forget, .instanceMethod yX11_forget, .selects RX11 yX11_forget yX11_forget, .initialized RX11, .fieldLink RX11 9 "DiskEvidence" "collected" "[B", .methodLink RX11 95 yX11_packedFault, .static yX11_packedFault]
def wq_X11_picture : List Cond := .code yX11_picture cX11_picture 3 (some .int) :: (dq_X11_picture ++ (wsX110 ++ (wq_X11_forget ++ (wq_X11_packedFault))))
theorem inq_X11_picture_c11 : ∀ w ∈ wsX110, w ∈ wq_X11_picture := fun w h => List.mem_cons_of_mem _ (List.mem_append_right _ (List.mem_append_left _ h))
theorem mq_X11_picture_X11_forget : ∀ w ∈ wq_X11_forget, w ∈ wq_X11_picture := fun w h => List.mem_cons_of_mem _ (List.mem_append_right _ (List.mem_append_right _ (List.mem_append_left _ h)))
theorem mq_X11_picture_X11_packedFault : ∀ w ∈ wq_X11_packedFault, w ∈ wq_X11_picture := fun w h => List.mem_cons_of_mem _ (List.mem_append_right _ (List.mem_append_right _ (List.mem_append_right _ (h))))
theorem ga_X11_picture : wq_X11_picture.all goodWord = true := by decide +kernel
theorem gq_X11_picture_X11_forget_91 : GoodIn wq_X11_picture (wsV RX11 91 RX11 yX11_forget wq_X11_forget) := goodIn_app (goodIn_r _ [2, 3, 4, 5] (by decide +kernel) (by decide +kernel)) (goodIn_sub mq_X11_picture_X11_forget ga_X11_forget)
theorem gq_X11_picture_X11_packedFault_95 : GoodIn wq_X11_picture (va_wsS RX11 95 yX11_packedFault wq_X11_packedFault) := goodIn_app (goodIn_r _ [7, 8, 5] (by decide +kernel) (by decide +kernel)) (goodIn_sub mq_X11_picture_X11_packedFault ga_X11_packedFault)
theorem tdq_X11_picture : ∀ w ∈ dq_X11_picture, w ∈ lw_tbl := fun w h => (goodIn_r (big := lw_tbl) dq_X11_picture [590, 700, 652, 653, 290, 586, 701, 702] (by decide +kernel) (by decide +kernel) w h).1
theorem tq_X11_picture : ∀ w ∈ wq_X11_picture, w ∈ lw_tbl := fun w h => (List.mem_cons.mp h).elim (fun e => by rw [e]; exact List.mem_of_getElem? (i := 699) (by decide +kernel)) (fun h => (List.mem_append.mp h).elim (fun h => tdq_X11_picture w h) (fun h => (List.mem_append.mp h).elim (fun h => nX11 w h) (fun h => (List.mem_append.mp h).elim (fun h => tq_X11_forget w h) (fun h => tq_X11_packedFault w h))))
set_option maxHeartbeats 40000000 in
set_option maxRecDepth 100000 in
theorem c_X11_picture (l : Launch) (dC : Nat → ClassId) (dI : Nat → Nat → Nat) (cI cB cZ cJ cC cP cV cT cO : ClassId) (sz : Nat) (h0 : Nat) (g : Nat → Nat)   : Met l yX11_picture wq_X11_picture ({ frames := 1, cells := 0, slots := 0, locals := 25 }) (va_Pc [.ref h0] (fun U => U.heap.size = sz ∧ va_P (dC, dI) vwCl [(h0, .inr (11, (fsX g)))] U.heap ∧ va_K (dC, dI) vwCl [(cI, .int), (cB, .byte), (cZ, .boolean), (cJ, .long), (cC, .char), (cP, .object "DiskEvidence$Picture"), (cV, .object "DiskEvidence$Volume"), (cT, .object "DiskEvidence$Tree"), (cO, .object "DiskEvidence$Opening")] U ∧ va_D (fun _ => True) [(h0, .inr (11, (fsX g)))])) (va_Qi (fun (r : Int32) (_ : Unit) => r = (-100)) (fun _ _ => True) (va_A [(h0, .inr (11, (fsX g)))] sz)) 0 0 (va_A [(h0, .inr (11, (fsX g)))] sz) := by
  refine Met.ofW (cc := cX11_picture) (maxL := 3) (ret := (some .int)) (by decide) rfl ?_
  intro p e s m args below meth c s₁ B hml hv
  obtain ⟨rfl, hsz, hP, hK, hD0⟩ := hv
  have hx := B.exec
  have hb := B.bytes
  have hr := B.returns
  have hts := atoms_spec (ws := wq_X11_picture) B.pre
  have hown : s.vm.findClass RX11 = some m.cls := findClass_of_methodNamed B.named
  have hlocks := B.notSynchronized
  subst hsz
  have hD := hD0.self (sz := s.heap.size)
  generalize hAe : va_A [(h0, .inr (11, (fsX g)))] s.heap.size = A at hD ⊢
  have hA : ∀ q : Nat, s.heap.size ≤ q → A q := fun q h => by rw [← hAe]; exact Or.inr h
  have hS : va_S A s.heap s.heap [] := va_S.rf
  have hl := lv_entry ([.ref h0]) (n := 3) (Nat.le_of_ble_eq_true rfl)
  rw [lg_entry_eq]
  generalize (lg_sl ([.ref h0]) ++ List.replicate (3 - (lg_sl ([.ref h0])).length) Slot.unset).toArray = ls at hl ⊢
  have hl : lv_has ls 3 [(0, .ref h0)] := hl
  refine lv_aload_n hx hb dX11_picture_0 rfl (lv_at hl 0 rfl) ?_
  refine va_get (D := (dC, dI)) (ci := 11) (v := .int 0) (C := RX11) (T := TX11) (N := 20) hx hb hts inq_X11_picture_c11 hown hK hP 0 rfl rfl 4 (by decide) (hts (.fieldLink RX11 85 "DiskEvidence" "pictureCount" "I") (List.mem_of_getElem? (i := 1) rfl)) (fun _ h9 => h9) rfl dX11_picture_1 ?_
  refine lv_bipush (v := 6) hx hb dX11_picture_4 (by decide) ?_
  refine lv_icmp_lt (tgt := 12) hx hb dX11_picture_6 (by decide) (fun _ => ?_) (fun c_1 => absurd (by decide) c_1)
  refine lv_aload_n hx hb dX11_picture_12 rfl (lv_at hl 0 rfl) ?_
  have hPc := hP.sub (ws' := [(h0, .inr (11, (fsX g)))]) [0] rfl
  have hDc := hD.sub (ws' := [(h0, .inr (11, (fsX g)))]) [0] (by decide) rfl
  have hKc := hK
  have hFc := va_free (wc := [(h0, .inr (11, (fsX g)))]) hD hS hA [0] rfl
  refine va_calli (va_runV (As := []) (rest := []) ⟨hx, hb, hml, hown, hts⟩ (c_X11_forget l dC dI cI cB cZ cJ cC cP cV cT cO s.heap.size h0 g) (cwV 0 hts gq_X11_picture_X11_forget_91 rfl rfl rfl (by decide +kernel) ⟨Nat.le_of_ble_eq_true rfl, Nat.le_of_ble_eq_true rfl⟩) ⟨fun a U g mk q => by obtain ⟨q0, q1, qP, qK, qD⟩ := q; exact ⟨q0, q1, qP, va_K.moved (u := U) (U := U.calling g mk a) (Vm.Alike.refl U.vm) qK, qD⟩, va_recv hKc hPc (ci := 11) (q0 := 0) rfl rfl, fun U hU hW => ⟨rfl, by rw [hU], by rw [hU]; exact hPc, va_K.moved hW.alike hKc, hDc.weaken (fun _ _ _ _ => trivial)⟩⟩ rfl rfl hl.1 rfl (lv_room (Nat.le_of_ble_eq_true rfl)) dX11_picture_13 ⟨Nat.le_of_ble_eq_true rfl, Nat.le_of_ble_eq_true rfl⟩) hS (fun q _ h => hFc q h) hFc (fun r_2 u t H1 locs ht hvm hr_2 hB hz1 hk1 hS => ?_)
  obtain ⟨hP1, hD1⟩ := hB
  rw [ht] at hP1
  obtain ⟨hP, hD⟩ := va_join (wr := []) (w1 := [(h0, .inr (11, (fsX g)))]) hP hD [0] [] rfl rfl (by decide) (by decide) hk1 hFc hP1 hD1
  generalize H1 = H at hP hS ⊢
  have hP : va_P (dC, dI) vwCl [(h0, .inr (11, (fsX g)))] H := hP
  have hD : va_D A [(h0, .inr (11, (fsX g)))] := hD
  obtain rfl : r_2 = 0 := hr_2
  refine lv_istore_n (lv' := [(1, .int 0), (0, .ref h0)]) hx hb dX11_picture_16 rfl hl (by decide) rfl (fun ls hl => ?_)
  refine lv_aload_n hx hb dX11_picture_17 rfl (lv_at hl 1 rfl) ?_
  refine va_get (D := (dC, dI)) (ci := 11) (v := .ref (g 0)) (C := RX11) (T := TX11) (N := 20) hx hb hts inq_X11_picture_c11 hown hK hP 0 rfl rfl 0 (by decide) (hts (.fieldLink RX11 9 "DiskEvidence" "collected" "[B") (List.mem_of_getElem? (i := 6) rfl)) (fun _ h9 => h9) rfl dX11_picture_18 ?_
  refine lv_iload_n hx hb dX11_picture_21 rfl (lv_at hl 0 rfl) ?_
  refine vp_callSi (va_Run.run (va_runS (As := [.ref (g 0), .int 0]) (rest := []) ⟨hx, hb, hml, hown, hts⟩ (c_X11_packedFault l (g 0)) (va_cwS 2 hts gq_X11_picture_X11_packedFault_95 rfl rfl rfl (by decide +kernel) ⟨Nat.le_of_ble_eq_true rfl, Nat.le_of_ble_eq_true rfl⟩) ⟨fun a U g mk q => q, fun U hU hW => ⟨rfl, trivial⟩⟩ rfl rfl hl.1 rfl (lv_room (Nat.le_of_ble_eq_true rfl)) dX11_picture_22 ⟨Nat.le_of_ble_eq_true rfl, Nat.le_of_ble_eq_true rfl⟩)) (fun r_3 hr_3 => ?_)
  obtain rfl : r_3 = 0 := hr_3
  refine lv_istore_n (lv' := [(2, .int 0), (1, .int 0), (0, .ref h0)]) hx hb dX11_picture_25 rfl hl (by decide) rfl (fun ls hl => ?_)
  refine lv_iload_n hx hb dX11_picture_26 rfl (lv_at hl 0 rfl) ?_
  refine lv_if_lt (tgt := 35) hx hb dX11_picture_27 (by decide) (fun c_4 => absurd c_4 (by decide)) (fun _ => ?_)
  refine lv_bipush (v := (-100)) hx hb dX11_picture_30 (by decide) ?_
  refine lv_iload_n hx hb dX11_picture_32 rfl (lv_at hl 0 rfl) ?_
  refine lv_isub hx hb dX11_picture_33 ?_
  refine lv_topi (fun f_5 ef_5 => ?_)
  obtain rfl : (-100 : Int32) = f_5 := (ef_5.trans (by decide)).symm
  exact W.iret (v := (-100)) hx hb hr (fun t ht hW => ⟨⟨(-100), (), rfl, rfl, trivial⟩, hS.F ht⟩) hS.2.2 dX11_picture_34
def dq_X12_is : List Cond := [.fieldLink RX12 376 "DiskEvidenceModel" "many" "I", .fieldLink RX12 406 "DiskEvidenceModel" "badAt" "I"]
def wq_X12_is : List Cond := .code yX12_is cX12_is 4 (some .boolean) :: (dq_X12_is ++ (wsX120))
theorem inq_X12_is_c12 : ∀ w ∈ wsX120, w ∈ wq_X12_is := fun w h => List.mem_cons_of_mem _ (List.mem_append_right _ (h))
theorem ga_X12_is : wq_X12_is.all goodWord = true := by decide +kernel
theorem tdq_X12_is : ∀ w ∈ dq_X12_is, w ∈ lw_tbl := fun w h => (goodIn_r (big := lw_tbl) dq_X12_is [2249, 2268] (by decide +kernel) (by decide +kernel) w h).1
theorem tq_X12_is : ∀ w ∈ wq_X12_is, w ∈ lw_tbl := fun w h => (List.mem_cons.mp h).elim (fun e => by rw [e]; exact List.mem_of_getElem? (i := 2806) (by decide +kernel)) (fun h => (List.mem_append.mp h).elim (fun h => tdq_X12_is w h) (fun h => nX12 w h))
set_option maxHeartbeats 40000000 in
set_option maxRecDepth 100000 in
theorem c_X12_is (l : Launch) (dC : Nat → ClassId) (dI : Nat → Nat → Nat) (cI cB cZ cJ cC cP cV cT cO : ClassId) (sz : Nat) (h0 : Nat) (g : Nat → Nat) (p1 p2 : Int32) : Met l yX12_is wq_X12_is ({ frames := 0, cells := 0, slots := 0, locals := 0 }) (va_Pc [.ref h0, .int 0, .int p1, .int p2] (fun U => U.heap.size = sz ∧ va_P (dC, dI) vwCl [(h0, .inr (12, (fsM g)))] U.heap ∧ va_K (dC, dI) vwCl [(cI, .int), (cB, .byte), (cZ, .boolean), (cJ, .long), (cC, .char), (cP, .object "DiskEvidence$Picture"), (cV, .object "DiskEvidence$Volume"), (cT, .object "DiskEvidence$Tree"), (cO, .object "DiskEvidence$Opening")] U ∧ va_D (fun _ => True) [(h0, .inr (12, (fsM g)))])) (va_Qi (fun (r : Int32) (_ : Unit) => r = 0) (fun _ t => va_P (dC, dI) vwCl [(h0, .inr (12, (fsM g)))] t.heap ∧ va_D (va_A [(h0, .inr (12, (fsM g)))] sz) [(h0, .inr (12, (fsM g)))]) (va_A [(h0, .inr (12, (fsM g)))] sz)) 0 0 (va_A [(h0, .inr (12, (fsM g)))] sz) := by
  refine Met.ofW (cc := cX12_is) (maxL := 4) (ret := (some .boolean)) (by decide) rfl ?_
  intro p e s m args below meth c s₁ B hml hv
  obtain ⟨rfl, hsz, hP, hK, hD0⟩ := hv
  have hx := B.exec
  have hb := B.bytes
  have hr := B.returns
  have hts := atoms_spec (ws := wq_X12_is) B.pre
  have hown : s.vm.findClass RX12 = some m.cls := findClass_of_methodNamed B.named
  have hlocks := B.notSynchronized
  subst hsz
  have hD := hD0.self (sz := s.heap.size)
  generalize hAe : va_A [(h0, .inr (12, (fsM g)))] s.heap.size = A at hD ⊢
  have hA : ∀ q : Nat, s.heap.size ≤ q → A q := fun q h => by rw [← hAe]; exact Or.inr h
  have hS : va_S A s.heap s.heap [] := va_S.rf
  have hl := lv_entry ([.ref h0, .int 0, .int p1, .int p2]) (n := 4) (Nat.le_of_ble_eq_true rfl)
  rw [lg_entry_eq]
  generalize (lg_sl ([.ref h0, .int 0, .int p1, .int p2]) ++ List.replicate (4 - (lg_sl ([.ref h0, .int 0, .int p1, .int p2])).length) Slot.unset).toArray = ls at hl ⊢
  have hl : lv_has ls 4 [(0, .ref h0), (1, .int 0), (2, .int p1), (3, .int p2)] := hl
  refine lv_iload_n hx hb dX12_is_0 rfl (lv_at hl 1 rfl) ?_
  refine lv_aload_n hx hb dX12_is_1 rfl (lv_at hl 0 rfl) ?_
  refine va_get (D := (dC, dI)) (ci := 12) (v := .int 0) (C := RX12) (T := TX12) (N := 172) hx hb hts inq_X12_is_c12 hown hK hP 0 rfl rfl 0 (by decide) (hts (.fieldLink RX12 376 "DiskEvidenceModel" "many" "I") (List.mem_of_getElem? (i := 1) rfl)) (fun _ h9 => h9) rfl dX12_is_2 ?_
  refine lv_icmp_lt (tgt := 18) hx hb dX12_is_5 (by decide) (fun c_1 => absurd c_1 (by decide)) (fun _ => ?_)
  refine lv_aload_n hx hb dX12_is_8 rfl (lv_at hl 0 rfl) ?_
  refine lv_aload_n hx hb dX12_is_9 rfl (lv_at hl 0 rfl) ?_
  refine va_get (D := (dC, dI)) (ci := 12) (v := .int 0) (C := RX12) (T := TX12) (N := 172) hx hb hts inq_X12_is_c12 hown hK hP 0 rfl rfl 0 (by decide) (hts (.fieldLink RX12 376 "DiskEvidenceModel" "many" "I") (List.mem_of_getElem? (i := 1) rfl)) (fun _ h9 => h9) rfl dX12_is_10 ?_
  refine va_put (D := (dC, dI)) (ci := 12) (v := .int 0) (ty := .int) (C := RX12) (T := TX12) (N := 172) hx hb hts inq_X12_is_c12 tyX12 tyX12_ok nmX12 hown hK hP hD hS 0 rfl rfl 19 (by decide) (hts (.fieldLink RX12 406 "DiskEvidenceModel" "badAt" "I") (List.mem_of_getElem? (i := 2) rfl)) (fun _ h9 => h9) rfl (by decide +kernel) rfl rfl (Nat.le_of_ble_eq_true rfl) dX12_is_13 (fun H locs hP hD hS => ?_)
  have hP : va_P (dC, dI) vwCl [(h0, .inr (12, ((fsM g).set 19 (.int 0))))] H := hP
  have hD : va_D A [(h0, .inr (12, ((fsM g).set 19 (.int 0))))] := hD
  refine lv_iconst (v := 0) hx hb dX12_is_16 (by decide) ?_
  have hP9 : va_P (dC, dI) vwCl [(h0, .inr (12, (fsM g)))] H := hP
  have hD9 : va_D A [(h0, .inr (12, (fsM g)))] := hD
  exact W.zret (v := 0) hx hb hr rfl (fun t ht hW => ⟨⟨0, (), rfl, rfl, by rw [ht]; exact hP9, hD9⟩, hS.F ht⟩) hS.2.2 dX12_is_17
def dq_X12_unpack : List Cond := [.methodLink RX12 413 yX12_is, .instanceMethod yX12_is, .selects RX12 yX12_is yX12_is, .initialized RX12, .fieldLink RX12 406 "DiskEvidenceModel" "badAt" "I"]
def wq_X12_unpack : List Cond := .code yX12_unpack cX12_unpack 7 (some .int) :: (dq_X12_unpack ++ (wsX120 ++ (wq_X12_is)))
theorem inq_X12_unpack_c12 : ∀ w ∈ wsX120, w ∈ wq_X12_unpack := fun w h => List.mem_cons_of_mem _ (List.mem_append_right _ (List.mem_append_left _ h))
theorem mq_X12_unpack_X12_is : ∀ w ∈ wq_X12_is, w ∈ wq_X12_unpack := fun w h => List.mem_cons_of_mem _ (List.mem_append_right _ (List.mem_append_right _ (h)))
theorem ga_X12_unpack : wq_X12_unpack.all goodWord = true := by decide +kernel
theorem gq_X12_unpack_X12_is_413 : GoodIn wq_X12_unpack (wsV RX12 413 RX12 yX12_is wq_X12_is) := goodIn_app (goodIn_r _ [1, 2, 3, 4] (by decide +kernel) (by decide +kernel)) (goodIn_sub mq_X12_unpack_X12_is ga_X12_is)
theorem tdq_X12_unpack : ∀ w ∈ dq_X12_unpack, w ∈ lw_tbl := fun w h => (goodIn_r (big := lw_tbl) dq_X12_unpack [2803, 2805, 118, 296, 2268] (by decide +kernel) (by decide +kernel) w h).1
theorem tq_X12_unpack : ∀ w ∈ wq_X12_unpack, w ∈ lw_tbl := fun w h => (List.mem_cons.mp h).elim (fun e => by rw [e]; exact List.mem_of_getElem? (i := 2802) (by decide +kernel)) (fun h => (List.mem_append.mp h).elim (fun h => tdq_X12_unpack w h) (fun h => (List.mem_append.mp h).elim (fun h => nX12 w h) (fun h => tq_X12_is w h)))
set_option maxHeartbeats 40000000 in
set_option maxRecDepth 100000 in
theorem c_X12_unpack (l : Launch) (dC : Nat → ClassId) (dI : Nat → Nat → Nat) (cI cB cZ cJ cC cP cV cT cO : ClassId) (sz : Nat) (h0 : Nat) (g : Nat → Nat)   : Met l yX12_unpack wq_X12_unpack ({ frames := 1, cells := 0, slots := 0, locals := 23 }) (va_Pc [.ref h0] (fun U => U.heap.size = sz ∧ va_P (dC, dI) vwCl [(h0, .inr (12, (fsM g)))] U.heap ∧ va_K (dC, dI) vwCl [(cI, .int), (cB, .byte), (cZ, .boolean), (cJ, .long), (cC, .char), (cP, .object "DiskEvidence$Picture"), (cV, .object "DiskEvidence$Volume"), (cT, .object "DiskEvidence$Tree"), (cO, .object "DiskEvidence$Opening")] U ∧ va_D (fun _ => True) [(h0, .inr (12, (fsM g)))])) (va_Qi (fun (r : Int32) (_ : Unit) => r = (-100)) (fun _ t => va_P (dC, dI) vwCl [(h0, .inr (12, (fsM g)))] t.heap ∧ va_D (va_A [(h0, .inr (12, (fsM g)))] sz) [(h0, .inr (12, (fsM g)))]) (va_A [(h0, .inr (12, (fsM g)))] sz)) 0 0 (va_A [(h0, .inr (12, (fsM g)))] sz) := by
  refine Met.ofW (cc := cX12_unpack) (maxL := 7) (ret := (some .int)) (by decide) rfl ?_
  intro p e s m args below meth c s₁ B hml hv
  obtain ⟨rfl, hsz, hP, hK, hD0⟩ := hv
  have hx := B.exec
  have hb := B.bytes
  have hr := B.returns
  have hts := atoms_spec (ws := wq_X12_unpack) B.pre
  have hown : s.vm.findClass RX12 = some m.cls := findClass_of_methodNamed B.named
  have hlocks := B.notSynchronized
  subst hsz
  have hD := hD0.self (sz := s.heap.size)
  generalize hAe : va_A [(h0, .inr (12, (fsM g)))] s.heap.size = A at hD ⊢
  have hA : ∀ q : Nat, s.heap.size ≤ q → A q := fun q h => by rw [← hAe]; exact Or.inr h
  have hS : va_S A s.heap s.heap [] := va_S.rf
  have hl := lv_entry ([.ref h0]) (n := 7) (Nat.le_of_ble_eq_true rfl)
  rw [lg_entry_eq]
  generalize (lg_sl ([.ref h0]) ++ List.replicate (7 - (lg_sl ([.ref h0])).length) Slot.unset).toArray = ls at hl ⊢
  have hl : lv_has ls 7 [(0, .ref h0)] := hl
  refine lv_aload_n hx hb dX12_unpack_0 rfl (lv_at hl 0 rfl) ?_
  refine lv_iconst (v := 0) hx hb dX12_unpack_1 (by decide) ?_
  refine lv_bipush (v := 80) hx hb dX12_unpack_2 (by decide) ?_
  refine lv_bipush (v := 80) hx hb dX12_unpack_4 (by decide) ?_
  have hPc := hP.sub (ws' := [(h0, .inr (12, (fsM g)))]) [0] rfl
  have hDc := hD.sub (ws' := [(h0, .inr (12, (fsM g)))]) [0] (by decide) rfl
  have hKc := hK
  have hFc := va_free (wc := [(h0, .inr (12, (fsM g)))]) hD hS hA [0] rfl
  refine va_calli (va_runV (As := [.int 0, .int 80, .int 80]) (rest := []) ⟨hx, hb, hml, hown, hts⟩ (c_X12_is l dC dI cI cB cZ cJ cC cP cV cT cO s.heap.size h0 g 80 80) (cwV 3 hts gq_X12_unpack_X12_is_413 rfl rfl rfl (by decide +kernel) ⟨Nat.le_of_ble_eq_true rfl, Nat.le_of_ble_eq_true rfl⟩) ⟨fun a U g mk q => by obtain ⟨q0, q1, qP, qK, qD⟩ := q; exact ⟨q0, q1, qP, va_K.moved (u := U) (U := U.calling g mk a) (Vm.Alike.refl U.vm) qK, qD⟩, va_recv hKc hPc (ci := 12) (q0 := 0) rfl rfl, fun U hU hW => ⟨rfl, by rw [hU], by rw [hU]; exact hPc, va_K.moved hW.alike hKc, hDc.weaken (fun _ _ _ _ => trivial)⟩⟩ rfl rfl hl.1 rfl (lv_room (Nat.le_of_ble_eq_true rfl)) dX12_unpack_6 ⟨Nat.le_of_ble_eq_true rfl, Nat.le_of_ble_eq_true rfl⟩) hS (fun q _ h => hFc q h) hFc (fun r_1 u t H1 locs ht hvm hr_1 hB hz1 hk1 hS => ?_)
  obtain ⟨hP1, hD1⟩ := hB
  rw [ht] at hP1
  obtain ⟨hP, hD⟩ := va_join (wr := []) (w1 := [(h0, .inr (12, (fsM g)))]) hP hD [0] [] rfl rfl (by decide) (by decide) hk1 hFc hP1 hD1
  generalize H1 = H at hP hS ⊢
  have hP : va_P (dC, dI) vwCl [(h0, .inr (12, (fsM g)))] H := hP
  have hD : va_D A [(h0, .inr (12, (fsM g)))] := hD
  obtain rfl : r_1 = 0 := hr_1
  refine lv_if_eq (tgt := 48) hx hb dX12_unpack_9 (by decide) (fun _ => ?_) (fun c_2 => absurd (by decide) c_2)
  refine lv_bipush (v := (-100)) hx hb dX12_unpack_48 (by decide) ?_
  refine lv_aload_n hx hb dX12_unpack_50 rfl (lv_at hl 0 rfl) ?_
  refine va_get (D := (dC, dI)) (ci := 12) (v := .int 0) (C := RX12) (T := TX12) (N := 172) hx hb hts inq_X12_unpack_c12 hown hK hP 0 rfl rfl 19 (by decide) (hts (.fieldLink RX12 406 "DiskEvidenceModel" "badAt" "I") (List.mem_of_getElem? (i := 5) rfl)) (fun _ h9 => h9) rfl dX12_unpack_51 ?_
  refine lv_isub hx hb dX12_unpack_54 ?_
  refine lv_topi (fun f_3 ef_3 => ?_)
  obtain rfl : (-100 : Int32) = f_3 := (ef_3.trans (by decide)).symm
  have hP9 : va_P (dC, dI) vwCl [(h0, .inr (12, (fsM g)))] H := hP
  have hD9 : va_D A [(h0, .inr (12, (fsM g)))] := hD
  exact W.iret (v := (-100)) hx hb hr (fun t ht hW => ⟨⟨(-100), (), rfl, rfl, by rw [ht]; exact hP9, hD9⟩, hS.F ht⟩) hS.2.2 dX12_unpack_55
def dq_X12_picture : List Cond := [.fieldLink RX12 393 "DiskEvidenceModel" "pictures" "I", .methodLink RX12 409 yX12_unpack, .instanceMethod yX12_unpack, .selects RX12 yX12_unpack yX12_unpack, .initialized RX12, .fieldLink RX12 376 "DiskEvidenceModel" "many" "I"]
def wq_X12_picture : List Cond := .code yX12_picture cX12_picture 2 (some .int) :: (dq_X12_picture ++ (wsX120 ++ (wq_X12_unpack)))
theorem inq_X12_picture_c12 : ∀ w ∈ wsX120, w ∈ wq_X12_picture := fun w h => List.mem_cons_of_mem _ (List.mem_append_right _ (List.mem_append_left _ h))
theorem mq_X12_picture_X12_unpack : ∀ w ∈ wq_X12_unpack, w ∈ wq_X12_picture := fun w h => List.mem_cons_of_mem _ (List.mem_append_right _ (List.mem_append_right _ (h)))
theorem ga_X12_picture : wq_X12_picture.all goodWord = true := by decide +kernel
theorem gq_X12_picture_X12_unpack_409 : GoodIn wq_X12_picture (wsV RX12 409 RX12 yX12_unpack wq_X12_unpack) := goodIn_app (goodIn_r _ [2, 3, 4, 5] (by decide +kernel) (by decide +kernel)) (goodIn_sub mq_X12_picture_X12_unpack ga_X12_unpack)
theorem tdq_X12_picture : ∀ w ∈ dq_X12_picture, w ∈ lw_tbl := fun w h => (goodIn_r (big := lw_tbl) dq_X12_picture [2252, 2799, 2801, 117, 296, 2249] (by decide +kernel) (by decide +kernel) w h).1
theorem tq_X12_picture : ∀ w ∈ wq_X12_picture, w ∈ lw_tbl := fun w h => (List.mem_cons.mp h).elim (fun e => by rw [e]; exact List.mem_of_getElem? (i := 2798) (by decide +kernel)) (fun h => (List.mem_append.mp h).elim (fun h => tdq_X12_picture w h) (fun h => (List.mem_append.mp h).elim (fun h => nX12 w h) (fun h => tq_X12_unpack w h)))
set_option maxHeartbeats 40000000 in
set_option maxRecDepth 100000 in
theorem c_X12_picture (l : Launch) (dC : Nat → ClassId) (dI : Nat → Nat → Nat) (cI cB cZ cJ cC cP cV cT cO : ClassId) (sz : Nat) (h0 : Nat) (g : Nat → Nat)   : Met l yX12_picture wq_X12_picture ({ frames := 2, cells := 0, slots := 0, locals := 49 }) (va_Pc [.ref h0] (fun U => U.heap.size = sz ∧ va_P (dC, dI) vwCl [(h0, .inr (12, (fsM g)))] U.heap ∧ va_K (dC, dI) vwCl [(cI, .int), (cB, .byte), (cZ, .boolean), (cJ, .long), (cC, .char), (cP, .object "DiskEvidence$Picture"), (cV, .object "DiskEvidence$Volume"), (cT, .object "DiskEvidence$Tree"), (cO, .object "DiskEvidence$Opening")] U ∧ va_D (fun _ => True) [(h0, .inr (12, (fsM g)))])) (va_Qi (fun (r : Int32) (_ : Unit) => r = (-100)) (fun _ _ => True) (va_A [(h0, .inr (12, (fsM g)))] sz)) 0 0 (va_A [(h0, .inr (12, (fsM g)))] sz) := by
  refine Met.ofW (cc := cX12_picture) (maxL := 2) (ret := (some .int)) (by decide) rfl ?_
  intro p e s m args below meth c s₁ B hml hv
  obtain ⟨rfl, hsz, hP, hK, hD0⟩ := hv
  have hx := B.exec
  have hb := B.bytes
  have hr := B.returns
  have hts := atoms_spec (ws := wq_X12_picture) B.pre
  have hown : s.vm.findClass RX12 = some m.cls := findClass_of_methodNamed B.named
  have hlocks := B.notSynchronized
  subst hsz
  have hD := hD0.self (sz := s.heap.size)
  generalize hAe : va_A [(h0, .inr (12, (fsM g)))] s.heap.size = A at hD ⊢
  have hA : ∀ q : Nat, s.heap.size ≤ q → A q := fun q h => by rw [← hAe]; exact Or.inr h
  have hS : va_S A s.heap s.heap [] := va_S.rf
  have hl := lv_entry ([.ref h0]) (n := 2) (Nat.le_of_ble_eq_true rfl)
  rw [lg_entry_eq]
  generalize (lg_sl ([.ref h0]) ++ List.replicate (2 - (lg_sl ([.ref h0])).length) Slot.unset).toArray = ls at hl ⊢
  have hl : lv_has ls 2 [(0, .ref h0)] := hl
  refine lv_aload_n hx hb dX12_picture_0 rfl (lv_at hl 0 rfl) ?_
  refine va_get (D := (dC, dI)) (ci := 12) (v := .int 0) (C := RX12) (T := TX12) (N := 172) hx hb hts inq_X12_picture_c12 hown hK hP 0 rfl rfl 3 (by decide) (hts (.fieldLink RX12 393 "DiskEvidenceModel" "pictures" "I") (List.mem_of_getElem? (i := 1) rfl)) (fun _ h9 => h9) rfl dX12_picture_1 ?_
  refine lv_bipush (v := 6) hx hb dX12_picture_4 (by decide) ?_
  refine lv_icmp_ne (tgt := 12) hx hb dX12_picture_6 (by decide) (fun _ => ?_) (fun c_1 => absurd c_1 (by decide))
  refine lv_aload_n hx hb dX12_picture_12 rfl (lv_at hl 0 rfl) ?_
  have hPc := hP.sub (ws' := [(h0, .inr (12, (fsM g)))]) [0] rfl
  have hDc := hD.sub (ws' := [(h0, .inr (12, (fsM g)))]) [0] (by decide) rfl
  have hKc := hK
  have hFc := va_free (wc := [(h0, .inr (12, (fsM g)))]) hD hS hA [0] rfl
  refine va_calli (va_runV (As := []) (rest := []) ⟨hx, hb, hml, hown, hts⟩ (c_X12_unpack l dC dI cI cB cZ cJ cC cP cV cT cO s.heap.size h0 g) (cwV 0 hts gq_X12_picture_X12_unpack_409 rfl rfl rfl (by decide +kernel) ⟨Nat.le_of_ble_eq_true rfl, Nat.le_of_ble_eq_true rfl⟩) ⟨fun a U g mk q => by obtain ⟨q0, q1, qP, qK, qD⟩ := q; exact ⟨q0, q1, qP, va_K.moved (u := U) (U := U.calling g mk a) (Vm.Alike.refl U.vm) qK, qD⟩, va_recv hKc hPc (ci := 12) (q0 := 0) rfl rfl, fun U hU hW => ⟨rfl, by rw [hU], by rw [hU]; exact hPc, va_K.moved hW.alike hKc, hDc.weaken (fun _ _ _ _ => trivial)⟩⟩ rfl rfl hl.1 rfl (lv_room (Nat.le_of_ble_eq_true rfl)) dX12_picture_13 ⟨Nat.le_of_ble_eq_true rfl, Nat.le_of_ble_eq_true rfl⟩) hS (fun q _ h => hFc q h) hFc (fun r_2 u t H1 locs ht hvm hr_2 hB hz1 hk1 hS => ?_)
  obtain ⟨hP1, hD1⟩ := hB
  rw [ht] at hP1
  obtain ⟨hP, hD⟩ := va_join (wr := []) (w1 := [(h0, .inr (12, (fsM g)))]) hP hD [0] [] rfl rfl (by decide) (by decide) hk1 hFc hP1 hD1
  generalize H1 = H at hP hS ⊢
  have hP : va_P (dC, dI) vwCl [(h0, .inr (12, (fsM g)))] H := hP
  have hD : va_D A [(h0, .inr (12, (fsM g)))] := hD
  obtain rfl : r_2 = (-100) := hr_2
  refine lv_istore_n (lv' := [(1, .int (-100)), (0, .ref h0)]) hx hb dX12_picture_16 rfl hl (by decide) rfl (fun ls hl => ?_)
  refine lv_aload_n hx hb dX12_picture_17 rfl (lv_at hl 1 rfl) ?_
  refine lv_iconst (v := 0) hx hb dX12_picture_18 (by decide) ?_
  refine va_put (D := (dC, dI)) (ci := 12) (v := .int 0) (ty := .int) (C := RX12) (T := TX12) (N := 172) hx hb hts inq_X12_picture_c12 tyX12 tyX12_ok nmX12 hown hK hP hD hS 0 rfl rfl 0 (by decide) (hts (.fieldLink RX12 376 "DiskEvidenceModel" "many" "I") (List.mem_of_getElem? (i := 6) rfl)) (fun _ h9 => h9) rfl (by decide +kernel) rfl rfl (Nat.le_of_ble_eq_true rfl) dX12_picture_19 (fun H locs hP hD hS => ?_)
  have hP : va_P (dC, dI) vwCl [(h0, .inr (12, ((fsM g).set 0 (.int 0))))] H := hP
  have hD : va_D A [(h0, .inr (12, ((fsM g).set 0 (.int 0))))] := hD
  refine lv_iload_n hx hb dX12_picture_22 rfl (lv_at hl 0 rfl) ?_
  exact W.iret (v := (-100)) hx hb hr (fun t ht hW => ⟨⟨(-100), (), rfl, rfl, trivial⟩, hS.F ht⟩) hS.2.2 dX12_picture_23
def dq_X11_tick : List Cond := [.constant RX11 80 (1000000000), .constant RX11 81 (2000000000), .fieldLink RX11 82 "DiskEvidence" "now" "I"]
def wq_X11_tick : List Cond := .code yX11_tick cX11_tick 2 (some .int) :: (dq_X11_tick ++ (wsX110))
theorem inq_X11_tick_c11 : ∀ w ∈ wsX110, w ∈ wq_X11_tick := fun w h => List.mem_cons_of_mem _ (List.mem_append_right _ (h))
theorem ga_X11_tick : wq_X11_tick.all goodWord = true := by decide +kernel
theorem tdq_X11_tick : ∀ w ∈ dq_X11_tick, w ∈ lw_tbl := fun w h => (goodIn_r (big := lw_tbl) dq_X11_tick [659, 660, 588] (by decide +kernel) (by decide +kernel) w h).1
theorem tq_X11_tick : ∀ w ∈ wq_X11_tick, w ∈ lw_tbl := fun w h => (List.mem_cons.mp h).elim (fun e => by rw [e]; exact List.mem_of_getElem? (i := 658) (by decide +kernel)) (fun h => (List.mem_append.mp h).elim (fun h => tdq_X11_tick w h) (fun h => nX11 w h))
set_option maxHeartbeats 40000000 in
set_option maxRecDepth 100000 in
theorem c_X11_tick (l : Launch) (dC : Nat → ClassId) (dI : Nat → Nat → Nat) (cI cB cZ cJ cC cP cV cT cO : ClassId) (sz : Nat) (h0 : Nat) (g : Nat → Nat)  (p0 : Int32) : Met l yX11_tick wq_X11_tick ({ frames := 0, cells := 0, slots := 0, locals := 0 }) (va_Pc [.ref h0, .int p0] (fun U => U.heap.size = sz ∧ va_P (dC, dI) vwCl [(h0, .inr (11, (fsX g)))] U.heap ∧ va_K (dC, dI) vwCl [(cI, .int), (cB, .byte), (cZ, .boolean), (cJ, .long), (cC, .char), (cP, .object "DiskEvidence$Picture"), (cV, .object "DiskEvidence$Volume"), (cT, .object "DiskEvidence$Tree"), (cO, .object "DiskEvidence$Opening")] U ∧ va_D (fun _ => True) [(h0, .inr (11, (fsX g)))])) (va_Qi (fun (r : Int32) (_ : Unit) => r = tickS p0) (fun _ _ => True) (va_A [(h0, .inr (11, (fsX g)))] sz)) 0 0 (va_A [(h0, .inr (11, (fsX g)))] sz) := by
  refine Met.ofW (cc := cX11_tick) (maxL := 2) (ret := (some .int)) (by decide) rfl ?_
  intro p e s m args below meth c s₁ B hml hv
  obtain ⟨rfl, hsz, hP, hK, hD0⟩ := hv
  have hx := B.exec
  have hb := B.bytes
  have hr := B.returns
  have hts := atoms_spec (ws := wq_X11_tick) B.pre
  have hown : s.vm.findClass RX11 = some m.cls := findClass_of_methodNamed B.named
  have hlocks := B.notSynchronized
  subst hsz
  have hD := hD0.self (sz := s.heap.size)
  generalize hAe : va_A [(h0, .inr (11, (fsX g)))] s.heap.size = A at hD ⊢
  have hA : ∀ q : Nat, s.heap.size ≤ q → A q := fun q h => by rw [← hAe]; exact Or.inr h
  have hS : va_S A s.heap s.heap [] := va_S.rf
  have hl := lv_entry ([.ref h0, .int p0]) (n := 2) (Nat.le_of_ble_eq_true rfl)
  rw [lg_entry_eq]
  generalize (lg_sl ([.ref h0, .int p0]) ++ List.replicate (2 - (lg_sl ([.ref h0, .int p0])).length) Slot.unset).toArray = ls at hl ⊢
  have hl : lv_has ls 2 [(0, .ref h0), (1, .int p0)] := hl
  refine lv_iload_n hx hb dX11_tick_0 rfl (lv_at hl 1 rfl) ?_
  refine lv_if_lt (tgt := 21) hx hb dX11_tick_1 (by decide) (fun c_1 => ?_) (fun c_1 => ?_)
  · refine lv_bipush (v := (-2)) hx hb dX11_tick_21 (by decide) ?_
    exact W.iret (v := (-2)) hx hb hr (fun t ht hW => ⟨⟨(-2), (), rfl, (if_neg (fun h => absurd c_1 (Int32.not_lt.mpr h.1))).symm, trivial⟩, hS.F ht⟩) hS.2.2 dX11_tick_23
  · refine lv_iload_n hx hb dX11_tick_4 rfl (lv_at hl 1 rfl) ?_
    refine lv_ldc (v := 1000000000) hx hb hown (hts (.constant RX11 80 (1000000000)) (List.mem_of_getElem? (i := 1) rfl)) dX11_tick_5 ?_
    refine lv_icmp_gt (tgt := 21) hx hb dX11_tick_7 (by decide) (fun c_2 => ?_) (fun c_2 => ?_)
    · refine lv_bipush (v := (-2)) hx hb dX11_tick_21 (by decide) ?_
      exact W.iret (v := (-2)) hx hb hr (fun t ht hW => ⟨⟨(-2), (), rfl, (if_neg (fun h => absurd c_2 (Int32.not_lt.mpr h.2))).symm, trivial⟩, hS.F ht⟩) hS.2.2 dX11_tick_23
    · refine lv_iload_n hx hb dX11_tick_10 rfl (lv_at hl 1 rfl) ?_
      refine lv_ldc (v := 2000000000) hx hb hown (hts (.constant RX11 81 (2000000000)) (List.mem_of_getElem? (i := 2) rfl)) dX11_tick_11 ?_
      refine lv_aload_n hx hb dX11_tick_13 rfl (lv_at hl 0 rfl) ?_
      refine va_get (D := (dC, dI)) (ci := 11) (v := .int 0) (C := RX11) (T := TX11) (N := 20) hx hb hts inq_X11_tick_c11 hown hK hP 0 rfl rfl 2 (by decide) (hts (.fieldLink RX11 82 "DiskEvidence" "now" "I") (List.mem_of_getElem? (i := 3) rfl)) (fun _ h9 => h9) rfl dX11_tick_14 ?_
      refine lv_isub hx hb dX11_tick_17 ?_
      refine lv_topi (fun f_3 ef_3 => ?_)
      obtain rfl : (2000000000 : Int32) = f_3 := (ef_3.trans (by decide)).symm
      refine lv_icmp_le (tgt := 24) hx hb dX11_tick_18 (by decide) (fun c_4 => ?_) (fun c_4 => ?_)
      · refine lv_aload_n hx hb dX11_tick_24 rfl (lv_at hl 0 rfl) ?_
        refine lv_dup hx hb dX11_tick_25 rfl ?_
        refine va_get (D := (dC, dI)) (ci := 11) (v := .int 0) (C := RX11) (T := TX11) (N := 20) hx hb hts inq_X11_tick_c11 hown hK hP 0 rfl rfl 2 (by decide) (hts (.fieldLink RX11 82 "DiskEvidence" "now" "I") (List.mem_of_getElem? (i := 3) rfl)) (fun _ h9 => h9) rfl dX11_tick_26 ?_
        refine lv_iload_n hx hb dX11_tick_29 rfl (lv_at hl 1 rfl) ?_
        refine lv_iadd hx hb dX11_tick_30 ?_
        refine lv_topi (fun f_5 ef_5 => ?_)
        obtain rfl : p0 = f_5 := (ef_5.trans (Int32.zero_add _)).symm
        refine va_put (D := (dC, dI)) (ci := 11) (v := .int p0) (ty := .int) (C := RX11) (T := TX11) (N := 20) hx hb hts inq_X11_tick_c11 tyX11 tyX11_ok nmX11 hown hK hP hD hS 0 rfl rfl 2 (by decide) (hts (.fieldLink RX11 82 "DiskEvidence" "now" "I") (List.mem_of_getElem? (i := 3) rfl)) (fun _ h9 => h9) rfl (by decide +kernel) rfl rfl (Nat.le_of_ble_eq_true rfl) dX11_tick_31 (fun H locs hP hD hS => ?_)
        have hP : va_P (dC, dI) vwCl [(h0, .inr (11, ((fsX g).set 2 (.int p0))))] H := hP
        have hD : va_D A [(h0, .inr (11, ((fsX g).set 2 (.int p0))))] := hD
        refine lv_aload_n hx hb dX11_tick_34 rfl (lv_at hl 0 rfl) ?_
        refine va_get (D := (dC, dI)) (ci := 11) (v := .int p0) (C := RX11) (T := TX11) (N := 20) hx hb hts inq_X11_tick_c11 hown hK hP 0 rfl rfl 2 (by decide) (hts (.fieldLink RX11 82 "DiskEvidence" "now" "I") (List.mem_of_getElem? (i := 3) rfl)) (fun _ h9 => h9) rfl dX11_tick_35 ?_
        exact W.iret (v := p0) hx hb hr (fun t ht hW => ⟨⟨p0, (), rfl, (if_pos ⟨Int32.not_lt.mp c_1, Int32.not_lt.mp c_2⟩).symm, trivial⟩, hS.F ht⟩) hS.2.2 dX11_tick_38
      · refine lv_bipush (v := (-2)) hx hb dX11_tick_21 (by decide) ?_
        exact W.iret (v := (-2)) hx hb hr (fun t ht hW => ⟨⟨(-2), (), rfl, (if_neg (fun h => absurd (Int32.lt_of_lt_of_le (Int32.not_le.mp c_4) h.2) (by decide))).symm, trivial⟩, hS.F ht⟩) hS.2.2 dX11_tick_23
def dq_X12_tick : List Cond := [.constantLong RX12 381 (1000000000), .methodLink RX12 372 yX12_in, .static yX12_in, .initialized RX12, .fieldLink RX12 383 "DiskEvidenceModel" "now" "I", .constantLong RX12 386 (2000000000)]
def wq_X12_tick : List Cond := .code yX12_tick cX12_tick 2 (some .int) :: (dq_X12_tick ++ (wsX120 ++ (wq_X12_in)))
theorem inq_X12_tick_c12 : ∀ w ∈ wsX120, w ∈ wq_X12_tick := fun w h => List.mem_cons_of_mem _ (List.mem_append_right _ (List.mem_append_left _ h))
theorem mq_X12_tick_X12_in : ∀ w ∈ wq_X12_in, w ∈ wq_X12_tick := fun w h => List.mem_cons_of_mem _ (List.mem_append_right _ (List.mem_append_right _ (h)))
theorem ga_X12_tick : wq_X12_tick.all goodWord = true := by decide +kernel
theorem gq_X12_tick_X12_in_372 : GoodIn wq_X12_tick (va_wsS RX12 372 yX12_in wq_X12_in) := goodIn_app (goodIn_r _ [2, 3, 4] (by decide +kernel) (by decide +kernel)) (goodIn_sub mq_X12_tick_X12_in ga_X12_in)
theorem tdq_X12_tick : ∀ w ∈ dq_X12_tick, w ∈ lw_tbl := fun w h => (goodIn_r (big := lw_tbl) dq_X12_tick [2784, 2772, 2773, 296, 2251, 2785] (by decide +kernel) (by decide +kernel) w h).1
theorem tq_X12_tick : ∀ w ∈ wq_X12_tick, w ∈ lw_tbl := fun w h => (List.mem_cons.mp h).elim (fun e => by rw [e]; exact List.mem_of_getElem? (i := 2783) (by decide +kernel)) (fun h => (List.mem_append.mp h).elim (fun h => tdq_X12_tick w h) (fun h => (List.mem_append.mp h).elim (fun h => nX12 w h) (fun h => tq_X12_in w h)))
set_option maxHeartbeats 40000000 in
set_option maxRecDepth 100000 in
theorem c_X12_tick (l : Launch) (dC : Nat → ClassId) (dI : Nat → Nat → Nat) (cI cB cZ cJ cC cP cV cT cO : ClassId) (sz : Nat) (h0 : Nat) (g : Nat → Nat)  (p0 : Int32) : Met l yX12_tick wq_X12_tick ({ frames := 1, cells := 0, slots := 0, locals := 25 }) (va_Pc [.ref h0, .int p0] (fun U => U.heap.size = sz ∧ va_P (dC, dI) vwCl [(h0, .inr (12, (fsM g)))] U.heap ∧ va_K (dC, dI) vwCl [(cI, .int), (cB, .byte), (cZ, .boolean), (cJ, .long), (cC, .char), (cP, .object "DiskEvidence$Picture"), (cV, .object "DiskEvidence$Volume"), (cT, .object "DiskEvidence$Tree"), (cO, .object "DiskEvidence$Opening")] U ∧ va_D (fun _ => True) [(h0, .inr (12, (fsM g)))])) (va_Qi (fun (r : Int32) (_ : Unit) => r = tickS p0) (fun _ _ => True) (va_A [(h0, .inr (12, (fsM g)))] sz)) 0 0 (va_A [(h0, .inr (12, (fsM g)))] sz) := by
  refine Met.ofW (cc := cX12_tick) (maxL := 2) (ret := (some .int)) (by decide) rfl ?_
  intro p e s m args below meth c s₁ B hml hv
  obtain ⟨rfl, hsz, hP, hK, hD0⟩ := hv
  have hx := B.exec
  have hb := B.bytes
  have hr := B.returns
  have hts := atoms_spec (ws := wq_X12_tick) B.pre
  have hown : s.vm.findClass RX12 = some m.cls := findClass_of_methodNamed B.named
  have hlocks := B.notSynchronized
  subst hsz
  have hD := hD0.self (sz := s.heap.size)
  generalize hAe : va_A [(h0, .inr (12, (fsM g)))] s.heap.size = A at hD ⊢
  have hA : ∀ q : Nat, s.heap.size ≤ q → A q := fun q h => by rw [← hAe]; exact Or.inr h
  have hS : va_S A s.heap s.heap [] := va_S.rf
  have hl := lv_entry ([.ref h0, .int p0]) (n := 2) (Nat.le_of_ble_eq_true rfl)
  rw [lg_entry_eq]
  generalize (lg_sl ([.ref h0, .int p0]) ++ List.replicate (2 - (lg_sl ([.ref h0, .int p0])).length) Slot.unset).toArray = ls at hl ⊢
  have hl : lv_has ls 2 [(0, .ref h0), (1, .int p0)] := hl
  refine lv_iload_n hx hb dX12_tick_0 rfl (lv_at hl 1 rfl) ?_
  refine lv_i2l hx hb dX12_tick_1 rfl ?_
  refine lv_lconst (v := 0) hx hb dX12_tick_2 (by decide) ?_
  refine lv_ldc2 (v := 1000000000) hx hb hown (hts (.constantLong RX12 381 (1000000000)) (List.mem_of_getElem? (i := 1) rfl)) dX12_tick_3 ?_
  refine vp_callSi (va_Run.run (va_runS (As := [.long p0.toInt64, .long 0, .long 1000000000]) (rest := []) ⟨hx, hb, hml, hown, hts⟩ (c_X12_in l p0.toInt64 0 1000000000) (va_cwS 3 hts gq_X12_tick_X12_in_372 rfl rfl rfl (by decide +kernel) ⟨Nat.le_of_ble_eq_true rfl, Nat.le_of_ble_eq_true rfl⟩) ⟨fun a U g mk q => q, fun U hU hW => ⟨rfl, trivial⟩⟩ rfl rfl hl.1 rfl (lv_room (Nat.le_of_ble_eq_true rfl)) dX12_tick_6 ⟨Nat.le_of_ble_eq_true rfl, Nat.le_of_ble_eq_true rfl⟩)) (fun r_1 hr_1 => ?_)
  rcases hr_1 with ⟨rfl, hlo_2, hhi_2⟩ | ⟨rfl, hno_2⟩
  · refine lv_if_eq (tgt := 27) hx hb dX12_tick_9 (by decide) (fun c_3 => absurd c_3 (by decide)) (fun _ => ?_)
    refine lv_aload_n hx hb dX12_tick_12 rfl (lv_at hl 0 rfl) ?_
    refine va_get (D := (dC, dI)) (ci := 12) (v := .int 0) (C := RX12) (T := TX12) (N := 172) hx hb hts inq_X12_tick_c12 hown hK hP 0 rfl rfl 2 (by decide) (hts (.fieldLink RX12 383 "DiskEvidenceModel" "now" "I") (List.mem_of_getElem? (i := 5) rfl)) (fun _ h9 => h9) rfl dX12_tick_13 ?_
    refine lv_i2l (v := 0) hx hb dX12_tick_16 (by decide) ?_
    refine lv_iload_n hx hb dX12_tick_17 rfl (lv_at hl 1 rfl) ?_
    refine lv_i2l hx hb dX12_tick_18 rfl ?_
    refine lv_ladd hx hb dX12_tick_19 ?_
    refine lv_topl (fun f_4 ef_4 => ?_)
    refine lv_ldc2 (v := 2000000000) hx hb hown (hts (.constantLong RX12 386 (2000000000)) (List.mem_of_getElem? (i := 6) rfl)) dX12_tick_20 ?_
    refine W.lcmp hx hb dX12_tick_23 ?_
    refine lv_if_le (tgt := 30) hx hb dX12_tick_24 (by decide) (fun c_6 => ?_) (fun c_6 => ?_)
    · refine lv_aload_n hx hb dX12_tick_30 rfl (lv_at hl 0 rfl) ?_
      refine lv_dup hx hb dX12_tick_31 rfl ?_
      refine va_get (D := (dC, dI)) (ci := 12) (v := .int 0) (C := RX12) (T := TX12) (N := 172) hx hb hts inq_X12_tick_c12 hown hK hP 0 rfl rfl 2 (by decide) (hts (.fieldLink RX12 383 "DiskEvidenceModel" "now" "I") (List.mem_of_getElem? (i := 5) rfl)) (fun _ h9 => h9) rfl dX12_tick_32 ?_
      refine lv_iload_n hx hb dX12_tick_35 rfl (lv_at hl 1 rfl) ?_
      refine lv_iadd hx hb dX12_tick_36 ?_
      refine lv_topi (fun f_7 ef_7 => ?_)
      obtain rfl : p0 = f_7 := (ef_7.trans (Int32.zero_add _)).symm
      refine va_put (D := (dC, dI)) (ci := 12) (v := .int p0) (ty := .int) (C := RX12) (T := TX12) (N := 172) hx hb hts inq_X12_tick_c12 tyX12 tyX12_ok nmX12 hown hK hP hD hS 0 rfl rfl 2 (by decide) (hts (.fieldLink RX12 383 "DiskEvidenceModel" "now" "I") (List.mem_of_getElem? (i := 5) rfl)) (fun _ h9 => h9) rfl (by decide +kernel) rfl rfl (Nat.le_of_ble_eq_true rfl) dX12_tick_37 (fun H locs hP hD hS => ?_)
      have hP : va_P (dC, dI) vwCl [(h0, .inr (12, ((fsM g).set 2 (.int p0))))] H := hP
      have hD : va_D A [(h0, .inr (12, ((fsM g).set 2 (.int p0))))] := hD
      refine lv_aload_n hx hb dX12_tick_40 rfl (lv_at hl 0 rfl) ?_
      refine va_get (D := (dC, dI)) (ci := 12) (v := .int p0) (C := RX12) (T := TX12) (N := 172) hx hb hts inq_X12_tick_c12 hown hK hP 0 rfl rfl 2 (by decide) (hts (.fieldLink RX12 383 "DiskEvidenceModel" "now" "I") (List.mem_of_getElem? (i := 5) rfl)) (fun _ h9 => h9) rfl dX12_tick_41 ?_
      exact W.iret (v := p0) hx hb hr (fun t ht hW => ⟨⟨p0, (), rfl, (if_pos (in_tick.mp ⟨hlo_2, hhi_2⟩)).symm, trivial⟩, hS.F ht⟩) hS.2.2 dX12_tick_44
    · refine lv_bipush (v := (-2)) hx hb dX12_tick_27 (by decide) ?_
      exact W.iret (v := (-2)) hx hb hr (fun t ht hW => ⟨⟨(-2), (), rfl, absurd ((cmp_gt _ _).mp (Int32.not_le.mp c_6)) (by rw [ef_4]; exact far_tick (in_tick.mp ⟨hlo_2, hhi_2⟩).2), trivial⟩, hS.F ht⟩) hS.2.2 dX12_tick_29
  · refine lv_if_eq (tgt := 27) hx hb dX12_tick_9 (by decide) (fun _ => ?_) (fun c_8 => absurd (by decide) c_8)
    refine lv_bipush (v := (-2)) hx hb dX12_tick_27 (by decide) ?_
    exact W.iret (v := (-2)) hx hb hr (fun t ht hW => ⟨⟨(-2), (), rfl, (if_neg (fun h => hno_2 (in_tick.mpr h))).symm, trivial⟩, hS.F ht⟩) hS.2.2 dX12_tick_29
def dq_X11_collect : List Cond := [.fieldLink RX11 76 "DiskEvidence" "collectedCount" "I", .fieldLink RX11 9 "DiskEvidence" "collected" "[B"]
def wq_X11_collect : List Cond := .code yX11_collect cX11_collect 5 (some .int) :: (dq_X11_collect ++ (wsX110))
theorem inq_X11_collect_c11 : ∀ w ∈ wsX110, w ∈ wq_X11_collect := fun w h => List.mem_cons_of_mem _ (List.mem_append_right _ (h))
theorem ga_X11_collect : wq_X11_collect.all goodWord = true := by decide +kernel
theorem tdq_X11_collect : ∀ w ∈ dq_X11_collect, w ∈ lw_tbl := fun w h => (goodIn_r (big := lw_tbl) dq_X11_collect [587, 586] (by decide +kernel) (by decide +kernel) w h).1
theorem tq_X11_collect : ∀ w ∈ wq_X11_collect, w ∈ lw_tbl := fun w h => (List.mem_cons.mp h).elim (fun e => by rw [e]; exact List.mem_of_getElem? (i := 650) (by decide +kernel)) (fun h => (List.mem_append.mp h).elim (fun h => tdq_X11_collect w h) (fun h => nX11 w h))
set_option maxHeartbeats 40000000 in
set_option maxRecDepth 100000 in
theorem c_X11_collect (l : Launch) (dC : Nat → ClassId) (dI : Nat → Nat → Nat) (cI cB cZ cJ cC cP cV cT cO : ClassId) (sz : Nat) (h0 : Nat) (g : Nat → Nat) (fb : Nat → Int32) (p0 : Int64) (p1 : Int32) : Met l yX11_collect wq_X11_collect ({ frames := 0, cells := 0, slots := 0, locals := 0 }) (va_Pc [.ref h0, .long p0, .int p1] (fun U => U.heap.size = sz ∧ va_P (dC, dI) vwCl [(h0, .inr (11, (fsX g))), ((g 0), .inl (cB, 4000, (.inl (fb))))] U.heap ∧ va_K (dC, dI) vwCl [(cI, .int), (cB, .byte), (cZ, .boolean), (cJ, .long), (cC, .char), (cP, .object "DiskEvidence$Picture"), (cV, .object "DiskEvidence$Volume"), (cT, .object "DiskEvidence$Tree"), (cO, .object "DiskEvidence$Opening")] U ∧ va_D (fun _ => True) [(h0, .inr (11, (fsX g))), ((g 0), .inl (cB, 4000, (.inl (fb))))])) (va_Qi (fun (r : Int32) (_ : Unit) => r = collS p1) (fun _ _ => True) (va_A [(h0, .inr (11, (fsX g))), ((g 0), .inl (cB, 4000, (.inl (fb))))] sz)) 0 0 (va_A [(h0, .inr (11, (fsX g))), ((g 0), .inl (cB, 4000, (.inl (fb))))] sz) := by
  refine Met.ofW (cc := cX11_collect) (maxL := 5) (ret := (some .int)) (by decide) rfl ?_
  intro p e s m args below meth c s₁ B hml hv
  obtain ⟨rfl, hsz, hP, hK, hD0⟩ := hv
  have hx := B.exec
  have hb := B.bytes
  have hr := B.returns
  have hts := atoms_spec (ws := wq_X11_collect) B.pre
  have hown : s.vm.findClass RX11 = some m.cls := findClass_of_methodNamed B.named
  have hlocks := B.notSynchronized
  subst hsz
  have hD := hD0.self (sz := s.heap.size)
  generalize hAe : va_A [(h0, .inr (11, (fsX g))), ((g 0), .inl (cB, 4000, (.inl (fb))))] s.heap.size = A at hD ⊢
  have hA : ∀ q : Nat, s.heap.size ≤ q → A q := fun q h => by rw [← hAe]; exact Or.inr h
  have hS : va_S A s.heap s.heap [] := va_S.rf
  have hl := lv_entry ([.ref h0, .long p0, .int p1]) (n := 5) (Nat.le_of_ble_eq_true rfl)
  rw [lg_entry_eq]
  generalize (lg_sl ([.ref h0, .long p0, .int p1]) ++ List.replicate (5 - (lg_sl ([.ref h0, .long p0, .int p1])).length) Slot.unset).toArray = ls at hl ⊢
  have hl : lv_has ls 5 [(0, .ref h0), (1, .long p0), (3, .int p1)] := hl
  refine lv_iload_n hx hb dX11_collect_0 rfl (lv_at hl 2 rfl) ?_
  refine lv_iconst (v := 1) hx hb dX11_collect_1 (by decide) ?_
  refine lv_icmp_lt (tgt := 11) hx hb dX11_collect_2 (by decide) (fun c_1 => ?_) (fun c_1 => ?_)
  · refine lv_bipush (v := (-2)) hx hb dX11_collect_11 (by decide) ?_
    exact W.iret (v := (-2)) hx hb hr (fun t ht hW => ⟨⟨(-2), (), rfl, (if_neg (fun h => absurd c_1 (Int32.not_lt.mpr h.1))).symm, trivial⟩, hS.F ht⟩) hS.2.2 dX11_collect_13
  · refine lv_iload_n hx hb dX11_collect_5 rfl (lv_at hl 2 rfl) ?_
    refine lv_bipush (v := 8) hx hb dX11_collect_6 (by decide) ?_
    refine lv_icmp_le (tgt := 14) hx hb dX11_collect_8 (by decide) (fun c_2 => ?_) (fun c_2 => ?_)
    · refine lv_aload_n hx hb dX11_collect_14 rfl (lv_at hl 0 rfl) ?_
      refine va_get (D := (dC, dI)) (ci := 11) (v := .int 0) (C := RX11) (T := TX11) (N := 20) hx hb hts inq_X11_collect_c11 hown hK hP 0 rfl rfl 1 (by decide) (hts (.fieldLink RX11 76 "DiskEvidence" "collectedCount" "I") (List.mem_of_getElem? (i := 1) rfl)) (fun _ h9 => h9) rfl dX11_collect_15 ?_
      refine lv_iload_n hx hb dX11_collect_18 rfl (lv_at hl 2 rfl) ?_
      refine lv_iadd hx hb dX11_collect_19 ?_
      refine lv_topi (fun f_3 ef_3 => ?_)
      obtain rfl : p1 = f_3 := (ef_3.trans (Int32.zero_add _)).symm
      refine lv_sipush (v := 4000) hx hb dX11_collect_20 (by decide) ?_
      refine lv_icmp_le (tgt := 29) hx hb dX11_collect_23 (by decide) (fun _ => ?_) (fun c_4 => absurd (Int32.le_trans c_2 (by decide)) c_4)
      refine lv_iconst (v := 0) hx hb dX11_collect_29 (by decide) ?_
      refine lv_istore (lv' := [(4, .int 0), (0, .ref h0), (1, .long p0), (3, .int p1)]) hx hb dX11_collect_30 hl (by decide) rfl (fun ls hl => ?_)
      obtain ⟨n, hn, rfl⟩ := upto (n := 8) (by decide) (Int32.not_lt.mp c_1) c_2
      refine nw_loop (fun d H locs ls => ∃ (j_5 : Nat) (g_5 : Nat → Int32), j_5 + d = n ∧ va_P (dC, dI) vwCl [(h0, .inr (11, (fsX g))), ((g 0), .inl (cB, 4000, (.inl (g_5))))] H ∧ va_D A [(h0, .inr (11, (fsX g))), ((g 0), .inl (cB, 4000, (.inl (g_5))))] ∧ va_S A s.heap H locs ∧ lv_has ls 5 [(4, .int (nI j_5)), (0, .ref h0), (1, .long p0), (3, .int (nI n))]) n ?_ ?_ _ _ _ ⟨0, _, Nat.zero_add _, hP, hD, hS, lv_sub hl [0, 1, 2, 3] rfl⟩
      · intro H locs ls hI
        obtain ⟨j_5, g_5, hj_5, hP, hD, hS, hl⟩ := hI
        obtain rfl : n = j_5 := by omega
        refine lv_iload hx hb dX11_collect_32 (lv_at hl 0 rfl) ?_
        refine lv_iload_n hx hb dX11_collect_34 rfl (lv_at hl 3 rfl) ?_
        refine lv_icmp_ge (tgt := 65) hx hb dX11_collect_35 (by decide) (fun _ => ?_) (fun c_6 => absurd (Int32.le_refl _) c_6)
        refine lv_aload_n hx hb dX11_collect_65 rfl (lv_at hl 1 rfl) ?_
        refine lv_dup hx hb dX11_collect_66 rfl ?_
        refine va_get (D := (dC, dI)) (ci := 11) (v := .int 0) (C := RX11) (T := TX11) (N := 20) hx hb hts inq_X11_collect_c11 hown hK hP 0 rfl rfl 1 (by decide) (hts (.fieldLink RX11 76 "DiskEvidence" "collectedCount" "I") (List.mem_of_getElem? (i := 1) rfl)) (fun _ h9 => h9) rfl dX11_collect_67 ?_
        refine lv_iload_n hx hb dX11_collect_70 rfl (lv_at hl 3 rfl) ?_
        refine lv_iadd hx hb dX11_collect_71 ?_
        refine lv_topi (fun f_7 ef_7 => ?_)
        obtain rfl : (nI n) = f_7 := (ef_7.trans (Int32.zero_add _)).symm
        refine va_put (D := (dC, dI)) (ci := 11) (v := .int (nI n)) (ty := .int) (C := RX11) (T := TX11) (N := 20) hx hb hts inq_X11_collect_c11 tyX11 tyX11_ok nmX11 hown hK hP hD hS 0 rfl rfl 1 (by decide) (hts (.fieldLink RX11 76 "DiskEvidence" "collectedCount" "I") (List.mem_of_getElem? (i := 1) rfl)) (fun _ h9 => h9) rfl (by decide +kernel) rfl rfl (Nat.le_of_ble_eq_true rfl) dX11_collect_72 (fun H locs hP hD hS => ?_)
        have hP : va_P (dC, dI) vwCl [(h0, .inr (11, ((fsX g).set 1 (.int (nI n))))), ((g 0), .inl (cB, 4000, (.inl (g_5))))] H := hP
        have hD : va_D A [(h0, .inr (11, ((fsX g).set 1 (.int (nI n))))), ((g 0), .inl (cB, 4000, (.inl (g_5))))] := hD
        refine lv_aload_n hx hb dX11_collect_75 rfl (lv_at hl 1 rfl) ?_
        refine va_get (D := (dC, dI)) (ci := 11) (v := .int (nI n)) (C := RX11) (T := TX11) (N := 20) hx hb hts inq_X11_collect_c11 hown hK hP 0 rfl rfl 1 (by decide) (hts (.fieldLink RX11 76 "DiskEvidence" "collectedCount" "I") (List.mem_of_getElem? (i := 1) rfl)) (fun _ h9 => h9) rfl dX11_collect_76 ?_
        exact W.iret (v := (nI n)) hx hb hr (fun t ht hW => ⟨⟨(nI n), (), rfl, (if_pos ⟨Int32.not_lt.mp c_1, c_2⟩).symm, trivial⟩, hS.F ht⟩) hS.2.2 dX11_collect_79
      · intro d ih H locs ls hI
        obtain ⟨j_5, g_5, hj_5, hP, hD, hS, hl⟩ := hI
        refine lv_iload hx hb dX11_collect_32 (lv_at hl 0 rfl) ?_
        refine lv_iload_n hx hb dX11_collect_34 rfl (lv_at hl 3 rfl) ?_
        refine lv_icmp_ge (tgt := 65) hx hb dX11_collect_35 (by decide) (fun c_8 => absurd c_8 (nI_ge (a := j_5) (b := n) (by omega) (by omega))) (fun _ => ?_)
        refine lv_aload_n hx hb dX11_collect_38 rfl (lv_at hl 1 rfl) ?_
        refine va_get (D := (dC, dI)) (ci := 11) (v := .ref (g 0)) (C := RX11) (T := TX11) (N := 20) hx hb hts inq_X11_collect_c11 hown hK hP 0 rfl rfl 0 (by decide) (hts (.fieldLink RX11 9 "DiskEvidence" "collected" "[B") (List.mem_of_getElem? (i := 2) rfl)) (fun _ h9 => h9) rfl dX11_collect_39 ?_
        refine lv_aload_n hx hb dX11_collect_42 rfl (lv_at hl 1 rfl) ?_
        refine va_get (D := (dC, dI)) (ci := 11) (v := .int 0) (C := RX11) (T := TX11) (N := 20) hx hb hts inq_X11_collect_c11 hown hK hP 0 rfl rfl 1 (by decide) (hts (.fieldLink RX11 76 "DiskEvidence" "collectedCount" "I") (List.mem_of_getElem? (i := 1) rfl)) (fun _ h9 => h9) rfl dX11_collect_43 ?_
        refine lv_iload hx hb dX11_collect_46 (lv_at hl 0 rfl) ?_
        refine lv_iadd hx hb dX11_collect_48 ?_
        refine lv_topi (fun f_9 ef_9 => ?_)
        obtain rfl : (nI j_5) = f_9 := (ef_9.trans (Int32.zero_add _)).symm
        refine lv_lload_n hx hb dX11_collect_49 rfl (lv_at hl 2 rfl) ?_
        refine lv_bipush (v := 8) hx hb dX11_collect_50 (by decide) ?_
        refine lv_iload hx hb dX11_collect_52 (lv_at hl 0 rfl) ?_
        refine lv_imul hx hb dX11_collect_54 ?_
        refine lv_topi (fun f_10 ef_10 => ?_)
        refine lv_lushr hx hb dX11_collect_55 rfl ?_
        refine lv_topl (fun f_11 ef_11 => ?_)
        refine lv_l2i hx hb dX11_collect_56 rfl ?_
        refine lv_topi (fun f_12 ef_12 => ?_)
        refine lv_i2b hx hb dX11_collect_57 rfl ?_
        refine lv_topi (fun f_13 ef_13 => ?_)
        refine va_bast hx hb hK hP hD hS 1 1 rfl rfl (vp_in_nI (by omega) (by omega)) dX11_collect_58 (fun H locs hP hD hS => ?_)
        obtain ⟨g_14, eg_14⟩ : ∃ y, y = upd (g_5) (nI j_5).toNatClampNeg (vp_nar .byte f_13) := ⟨_, rfl⟩
        rw [← eg_14] at hP hD
        have hP : va_P (dC, dI) vwCl [(h0, .inr (11, (fsX g))), ((g 0), .inl (cB, 4000, (.inl (g_14))))] H := hP
        have hD : va_D A [(h0, .inr (11, (fsX g))), ((g 0), .inl (cB, 4000, (.inl (g_14))))] := hD
        refine lv_iinc (v := (nI (j_5 + 1))) (lv' := [(4, .int (nI (j_5 + 1))), (0, .ref h0), (1, .long p0), (3, .int (nI n))]) hx hb dX11_collect_59 hl (k := 0) rfl (nI_1 _) (by decide) rfl (fun ls hl => ?_)
        refine lv_goto (tgt := 32) hx hb dX11_collect_62 (by decide) ?_
        exact ih _ _ _ ⟨j_5 + 1, _, by omega, hP, hD, hS, lv_sub hl [0, 1, 2, 3] rfl⟩
    · refine lv_bipush (v := (-2)) hx hb dX11_collect_11 (by decide) ?_
      exact W.iret (v := (-2)) hx hb hr (fun t ht hW => ⟨⟨(-2), (), rfl, (if_neg (fun h => absurd h.2 c_2)).symm, trivial⟩, hS.F ht⟩) hS.2.2 dX11_collect_13
def dq_X12_collect : List Cond := [.constantLong RX12 370 (8), .methodLink RX12 372 yX12_in, .static yX12_in, .initialized RX12, .fieldLink RX12 376 "DiskEvidenceModel" "many" "I", .fieldLink RX12 7 "DiskEvidenceModel" "bytes" "[I", .constantLong RX12 379 (255)]
def wq_X12_collect : List Cond := .code yX12_collect cX12_collect 5 (some .int) :: (dq_X12_collect ++ (wsX120 ++ (wq_X12_in)))
theorem inq_X12_collect_c12 : ∀ w ∈ wsX120, w ∈ wq_X12_collect := fun w h => List.mem_cons_of_mem _ (List.mem_append_right _ (List.mem_append_left _ h))
theorem mq_X12_collect_X12_in : ∀ w ∈ wq_X12_in, w ∈ wq_X12_collect := fun w h => List.mem_cons_of_mem _ (List.mem_append_right _ (List.mem_append_right _ (h)))
theorem ga_X12_collect : wq_X12_collect.all goodWord = true := by decide +kernel
theorem gq_X12_collect_X12_in_372 : GoodIn wq_X12_collect (va_wsS RX12 372 yX12_in wq_X12_in) := goodIn_app (goodIn_r _ [2, 3, 4] (by decide +kernel) (by decide +kernel)) (goodIn_sub mq_X12_collect_X12_in ga_X12_in)
theorem tdq_X12_collect : ∀ w ∈ dq_X12_collect, w ∈ lw_tbl := fun w h => (goodIn_r (big := lw_tbl) dq_X12_collect [2771, 2772, 2773, 296, 2249, 2250, 2775] (by decide +kernel) (by decide +kernel) w h).1
theorem tq_X12_collect : ∀ w ∈ wq_X12_collect, w ∈ lw_tbl := fun w h => (List.mem_cons.mp h).elim (fun e => by rw [e]; exact List.mem_of_getElem? (i := 2770) (by decide +kernel)) (fun h => (List.mem_append.mp h).elim (fun h => tdq_X12_collect w h) (fun h => (List.mem_append.mp h).elim (fun h => nX12 w h) (fun h => tq_X12_in w h)))
set_option maxHeartbeats 40000000 in
set_option maxRecDepth 100000 in
theorem c_X12_collect (l : Launch) (dC : Nat → ClassId) (dI : Nat → Nat → Nat) (cI cB cZ cJ cC cP cV cT cO : ClassId) (sz : Nat) (h0 : Nat) (g : Nat → Nat) (fb : Nat → Int32) (p0 : Int64) (p1 : Int32) : Met l yX12_collect wq_X12_collect ({ frames := 1, cells := 0, slots := 0, locals := 25 }) (va_Pc [.ref h0, .long p0, .int p1] (fun U => U.heap.size = sz ∧ va_P (dC, dI) vwCl [(h0, .inr (12, (fsM g))), ((g 1), .inl (cI, 4000, (.inl (fb))))] U.heap ∧ va_K (dC, dI) vwCl [(cI, .int), (cB, .byte), (cZ, .boolean), (cJ, .long), (cC, .char), (cP, .object "DiskEvidence$Picture"), (cV, .object "DiskEvidence$Volume"), (cT, .object "DiskEvidence$Tree"), (cO, .object "DiskEvidence$Opening")] U ∧ va_D (fun _ => True) [(h0, .inr (12, (fsM g))), ((g 1), .inl (cI, 4000, (.inl (fb))))])) (va_Qi (fun (r : Int32) (_ : Unit) => r = collS p1) (fun _ _ => True) (va_A [(h0, .inr (12, (fsM g))), ((g 1), .inl (cI, 4000, (.inl (fb))))] sz)) 0 0 (va_A [(h0, .inr (12, (fsM g))), ((g 1), .inl (cI, 4000, (.inl (fb))))] sz) := by
  refine Met.ofW (cc := cX12_collect) (maxL := 5) (ret := (some .int)) (by decide) rfl ?_
  intro p e s m args below meth c s₁ B hml hv
  obtain ⟨rfl, hsz, hP, hK, hD0⟩ := hv
  have hx := B.exec
  have hb := B.bytes
  have hr := B.returns
  have hts := atoms_spec (ws := wq_X12_collect) B.pre
  have hown : s.vm.findClass RX12 = some m.cls := findClass_of_methodNamed B.named
  have hlocks := B.notSynchronized
  subst hsz
  have hD := hD0.self (sz := s.heap.size)
  generalize hAe : va_A [(h0, .inr (12, (fsM g))), ((g 1), .inl (cI, 4000, (.inl (fb))))] s.heap.size = A at hD ⊢
  have hA : ∀ q : Nat, s.heap.size ≤ q → A q := fun q h => by rw [← hAe]; exact Or.inr h
  have hS : va_S A s.heap s.heap [] := va_S.rf
  have hl := lv_entry ([.ref h0, .long p0, .int p1]) (n := 5) (Nat.le_of_ble_eq_true rfl)
  rw [lg_entry_eq]
  generalize (lg_sl ([.ref h0, .long p0, .int p1]) ++ List.replicate (5 - (lg_sl ([.ref h0, .long p0, .int p1])).length) Slot.unset).toArray = ls at hl ⊢
  have hl : lv_has ls 5 [(0, .ref h0), (1, .long p0), (3, .int p1)] := hl
  refine lv_iload_n hx hb dX12_collect_0 rfl (lv_at hl 2 rfl) ?_
  refine lv_i2l hx hb dX12_collect_1 rfl ?_
  refine lv_lconst (v := 1) hx hb dX12_collect_2 (by decide) ?_
  refine lv_ldc2 (v := 8) hx hb hown (hts (.constantLong RX12 370 (8)) (List.mem_of_getElem? (i := 1) rfl)) dX12_collect_3 ?_
  refine vp_callSi (va_Run.run (va_runS (As := [.long p1.toInt64, .long 1, .long 8]) (rest := []) ⟨hx, hb, hml, hown, hts⟩ (c_X12_in l p1.toInt64 1 8) (va_cwS 3 hts gq_X12_collect_X12_in_372 rfl rfl rfl (by decide +kernel) ⟨Nat.le_of_ble_eq_true rfl, Nat.le_of_ble_eq_true rfl⟩) ⟨fun a U g mk q => q, fun U hU hW => ⟨rfl, trivial⟩⟩ rfl rfl hl.1 rfl (lv_room (Nat.le_of_ble_eq_true rfl)) dX12_collect_6 ⟨Nat.le_of_ble_eq_true rfl, Nat.le_of_ble_eq_true rfl⟩)) (fun r_1 hr_1 => ?_)
  rcases hr_1 with ⟨rfl, hlo_2, hhi_2⟩ | ⟨rfl, hno_2⟩
  · refine lv_if_ne (tgt := 15) hx hb dX12_collect_9 (by decide) (fun _ => ?_) (fun c_3 => absurd c_3 (by decide))
    refine lv_aload_n hx hb dX12_collect_15 rfl (lv_at hl 0 rfl) ?_
    refine va_get (D := (dC, dI)) (ci := 12) (v := .int 0) (C := RX12) (T := TX12) (N := 172) hx hb hts inq_X12_collect_c12 hown hK hP 0 rfl rfl 0 (by decide) (hts (.fieldLink RX12 376 "DiskEvidenceModel" "many" "I") (List.mem_of_getElem? (i := 5) rfl)) (fun _ h9 => h9) rfl dX12_collect_16 ?_
    refine lv_iload_n hx hb dX12_collect_19 rfl (lv_at hl 2 rfl) ?_
    refine lv_iadd hx hb dX12_collect_20 ?_
    refine lv_topi (fun f_4 ef_4 => ?_)
    obtain rfl : p1 = f_4 := (ef_4.trans (Int32.zero_add _)).symm
    refine lv_sipush (v := 4000) hx hb dX12_collect_21 (by decide) ?_
    refine lv_icmp_le (tgt := 30) hx hb dX12_collect_24 (by decide) (fun _ => ?_) (fun c_5 => absurd (Int32.le_trans (in_coll.mp ⟨hlo_2, hhi_2⟩).2 (by decide)) c_5)
    refine lv_iconst (v := 0) hx hb dX12_collect_30 (by decide) ?_
    refine lv_istore (lv' := [(4, .int 0), (0, .ref h0), (1, .long p0), (3, .int p1)]) hx hb dX12_collect_31 hl (by decide) rfl (fun ls hl => ?_)
    obtain ⟨n, hn, rfl⟩ := upto (n := 8) (by decide) (in_coll.mp ⟨hlo_2, hhi_2⟩).1 (in_coll.mp ⟨hlo_2, hhi_2⟩).2
    refine nw_loop (fun d H locs ls => ∃ (j_6 : Nat) (g_6 : Nat → Int32), j_6 + d = n ∧ va_P (dC, dI) vwCl [(h0, .inr (12, ((fsM g).set 0 (.int (nI j_6))))), ((g 1), .inl (cI, 4000, (.inl (g_6))))] H ∧ va_D A [(h0, .inr (12, ((fsM g).set 0 (.int (nI j_6))))), ((g 1), .inl (cI, 4000, (.inl (g_6))))] ∧ va_S A s.heap H locs ∧ lv_has ls 5 [(4, .int (nI j_6)), (0, .ref h0), (1, .long p0), (3, .int (nI n))]) n ?_ ?_ _ _ _ ⟨0, _, Nat.zero_add _, hP, hD, hS, lv_sub hl [0, 1, 2, 3] rfl⟩
    · intro H locs ls hI
      obtain ⟨j_6, g_6, hj_6, hP, hD, hS, hl⟩ := hI
      obtain rfl : n = j_6 := by omega
      refine lv_iload hx hb dX12_collect_33 (lv_at hl 0 rfl) ?_
      refine lv_iload_n hx hb dX12_collect_35 rfl (lv_at hl 3 rfl) ?_
      refine lv_icmp_ge (tgt := 76) hx hb dX12_collect_36 (by decide) (fun _ => ?_) (fun c_7 => absurd (Int32.le_refl _) c_7)
      refine lv_aload_n hx hb dX12_collect_76 rfl (lv_at hl 1 rfl) ?_
      refine va_get (D := (dC, dI)) (ci := 12) (v := .int (nI n)) (C := RX12) (T := TX12) (N := 172) hx hb hts inq_X12_collect_c12 hown hK hP 0 rfl rfl 0 (by decide) (hts (.fieldLink RX12 376 "DiskEvidenceModel" "many" "I") (List.mem_of_getElem? (i := 5) rfl)) (fun _ h9 => h9) rfl dX12_collect_77 ?_
      exact W.iret (v := (nI n)) hx hb hr (fun t ht hW => ⟨⟨(nI n), (), rfl, (if_pos (in_coll.mp ⟨hlo_2, hhi_2⟩)).symm, trivial⟩, hS.F ht⟩) hS.2.2 dX12_collect_80
    · intro d ih H locs ls hI
      obtain ⟨j_6, g_6, hj_6, hP, hD, hS, hl⟩ := hI
      refine lv_iload hx hb dX12_collect_33 (lv_at hl 0 rfl) ?_
      refine lv_iload_n hx hb dX12_collect_35 rfl (lv_at hl 3 rfl) ?_
      refine lv_icmp_ge (tgt := 76) hx hb dX12_collect_36 (by decide) (fun c_8 => absurd c_8 (nI_ge (a := j_6) (b := n) (by omega) (by omega))) (fun _ => ?_)
      refine lv_aload_n hx hb dX12_collect_39 rfl (lv_at hl 1 rfl) ?_
      refine va_get (D := (dC, dI)) (ci := 12) (v := .ref (g 1)) (C := RX12) (T := TX12) (N := 172) hx hb hts inq_X12_collect_c12 hown hK hP 0 rfl rfl 1 (by decide) (hts (.fieldLink RX12 7 "DiskEvidenceModel" "bytes" "[I") (List.mem_of_getElem? (i := 6) rfl)) (fun _ h9 => h9) rfl dX12_collect_40 ?_
      refine lv_aload_n hx hb dX12_collect_43 rfl (lv_at hl 1 rfl) ?_
      refine va_get (D := (dC, dI)) (ci := 12) (v := .int (nI j_6)) (C := RX12) (T := TX12) (N := 172) hx hb hts inq_X12_collect_c12 hown hK hP 0 rfl rfl 0 (by decide) (hts (.fieldLink RX12 376 "DiskEvidenceModel" "many" "I") (List.mem_of_getElem? (i := 5) rfl)) (fun _ h9 => h9) rfl dX12_collect_44 ?_
      refine lv_lload_n hx hb dX12_collect_47 rfl (lv_at hl 2 rfl) ?_
      refine lv_bipush (v := 8) hx hb dX12_collect_48 (by decide) ?_
      refine lv_iload hx hb dX12_collect_50 (lv_at hl 0 rfl) ?_
      refine lv_imul hx hb dX12_collect_52 ?_
      refine lv_topi (fun f_9 ef_9 => ?_)
      refine lv_lshr hx hb dX12_collect_53 rfl ?_
      refine lv_topl (fun f_10 ef_10 => ?_)
      refine lv_ldc2 (v := 255) hx hb hown (hts (.constantLong RX12 379 (255)) (List.mem_of_getElem? (i := 7) rfl)) dX12_collect_54 ?_
      refine lv_land hx hb dX12_collect_57 ?_
      refine lv_topl (fun f_11 ef_11 => ?_)
      refine lv_l2i hx hb dX12_collect_58 rfl ?_
      refine lv_topi (fun f_12 ef_12 => ?_)
      refine va_iast hx hb hK hP hD hS 1 0 rfl rfl (vp_in_nI (by omega) (by omega)) dX12_collect_59 (fun H locs hP hD hS => ?_)
      obtain ⟨g_13, eg_13⟩ : ∃ y, y = upd (g_6) (nI j_6).toNatClampNeg f_12 := ⟨_, rfl⟩
      rw [← eg_13] at hP hD
      have hP : va_P (dC, dI) vwCl [(h0, .inr (12, ((fsM g).set 0 (.int (nI j_6))))), ((g 1), .inl (cI, 4000, (.inl (g_13))))] H := hP
      have hD : va_D A [(h0, .inr (12, ((fsM g).set 0 (.int (nI j_6))))), ((g 1), .inl (cI, 4000, (.inl (g_13))))] := hD
      refine lv_aload_n hx hb dX12_collect_60 rfl (lv_at hl 1 rfl) ?_
      refine lv_dup hx hb dX12_collect_61 rfl ?_
      refine va_get (D := (dC, dI)) (ci := 12) (v := .int (nI j_6)) (C := RX12) (T := TX12) (N := 172) hx hb hts inq_X12_collect_c12 hown hK hP 0 rfl rfl 0 (by decide) (hts (.fieldLink RX12 376 "DiskEvidenceModel" "many" "I") (List.mem_of_getElem? (i := 5) rfl)) (fun _ h9 => h9) rfl dX12_collect_62 ?_
      refine lv_iconst (v := 1) hx hb dX12_collect_65 (by decide) ?_
      refine lv_iadd hx hb dX12_collect_66 ?_
      refine lv_topi (fun f_14 ef_14 => ?_)
      obtain rfl : (nI (j_6 + 1)) = f_14 := (ef_14.trans (nI_1 _)).symm
      refine va_put (D := (dC, dI)) (ci := 12) (v := .int (nI (j_6 + 1))) (ty := .int) (C := RX12) (T := TX12) (N := 172) hx hb hts inq_X12_collect_c12 tyX12 tyX12_ok nmX12 hown hK hP hD hS 0 rfl rfl 0 (by decide) (hts (.fieldLink RX12 376 "DiskEvidenceModel" "many" "I") (List.mem_of_getElem? (i := 5) rfl)) (fun _ h9 => h9) rfl (by decide +kernel) rfl rfl (Nat.le_of_ble_eq_true rfl) dX12_collect_67 (fun H locs hP hD hS => ?_)
      have hP : va_P (dC, dI) vwCl [(h0, .inr (12, (((fsM g).set 0 (.int (nI j_6))).set 0 (.int (nI (j_6 + 1)))))), ((g 1), .inl (cI, 4000, (.inl (g_13))))] H := hP
      have hD : va_D A [(h0, .inr (12, (((fsM g).set 0 (.int (nI j_6))).set 0 (.int (nI (j_6 + 1)))))), ((g 1), .inl (cI, 4000, (.inl (g_13))))] := hD
      refine lv_iinc (v := (nI (j_6 + 1))) (lv' := [(4, .int (nI (j_6 + 1))), (0, .ref h0), (1, .long p0), (3, .int (nI n))]) hx hb dX12_collect_70 hl (k := 0) rfl (nI_1 _) (by decide) rfl (fun ls hl => ?_)
      refine lv_goto (tgt := 33) hx hb dX12_collect_73 (by decide) ?_
      exact ih _ _ _ ⟨j_6 + 1, _, by omega, hP, hD, hS, lv_sub hl [0, 1, 2, 3] rfl⟩
  · refine lv_if_ne (tgt := 15) hx hb dX12_collect_9 (by decide) (fun c_15 => absurd (by decide) c_15) (fun _ => ?_)
    refine lv_bipush (v := (-2)) hx hb dX12_collect_12 (by decide) ?_
    exact W.iret (v := (-2)) hx hb hr (fun t ht hW => ⟨⟨(-2), (), rfl, (if_neg (fun h => hno_2 (in_coll.mpr h))).symm, trivial⟩, hS.F ht⟩) hS.2.2 dX12_collect_14
