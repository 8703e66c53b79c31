def dq_X12_in : List Cond := []
def wq_X12_in : List Cond := .code yX12_in cX12_in 6 (some .boolean) :: (dq_X12_in)
theorem ga_X12_in : wq_X12_in.all goodWord = true := by decide +kernel
theorem tdq_X12_in : ∀ w ∈ dq_X12_in, w ∈ lw_tbl := fun w h => (goodIn_r (big := lw_tbl) dq_X12_in [] (by decide +kernel) (by decide +kernel) w h).1
theorem tq_X12_in : ∀ w ∈ wq_X12_in, w ∈ lw_tbl := fun w h => (List.mem_cons.mp h).elim (fun e => by rw [e]; exact List.mem_of_getElem? (i := 2774) (by decide +kernel)) (fun h => tdq_X12_in w h)
set_option maxHeartbeats 40000000 in
set_option maxRecDepth 100000 in
theorem c_X12_in (l : Launch) (p0 p1 p2 : Int64) : Met l yX12_in wq_X12_in ({ frames := 0, cells := 0, slots := 0, locals := 0 }) (va_Pc [.long p0, .long p1, .long p2] (fun U => True)) (vp_Si (fun r : Int32 => (r = 1 ∧ p1 ≤ p0 ∧ p0 ≤ p2) ∨ (r = 0 ∧ ¬ (p1 ≤ p0 ∧ p0 ≤ p2)))) 0 0 (fun _ => False) := by
  refine Met.ofW (cc := cX12_in) (maxL := 6) (ret := (some .boolean)) (by decide) rfl ?_
  intro p e s m args below meth c s₁ B hml hv
  obtain ⟨rfl, -⟩ := hv
  have hx := B.exec
  have hb := B.bytes
  have hr := B.returns
  have hts := atoms_spec (ws := wq_X12_in) B.pre
  have hown : s.vm.findClass RX12 = some m.cls := findClass_of_methodNamed B.named
  have hlocks := B.notSynchronized
  have hl := lv_entry ([.long p0, .long p1, .long p2]) (n := 6) (Nat.le_of_ble_eq_true rfl)
  rw [lg_entry_eq]
  generalize (lg_sl ([.long p0, .long p1, .long p2]) ++ List.replicate (6 - (lg_sl ([.long p0, .long p1, .long p2])).length) Slot.unset).toArray = ls at hl ⊢
  have hl : lv_has ls 6 [(0, .long p0), (2, .long p1), (4, .long p2)] := hl
  refine lv_lload_n hx hb dX12_in_0 rfl (lv_at hl 0 rfl) ?_
  refine lv_lload_n hx hb dX12_in_1 rfl (lv_at hl 1 rfl) ?_
  refine W.lcmp hx hb dX12_in_2 ?_
  refine lv_if_lt (tgt := 17) hx hb dX12_in_3 (by decide) (fun c_2 => ?_) (fun c_2 => ?_)
  · refine lv_iconst (v := 0) hx hb dX12_in_17 (by decide) ?_
    exact W.zret (v := 0) hx hb hr rfl (fun t ht hW => ⟨0, rfl, Or.inr ⟨rfl, fun h => absurd ((cmp_lt _ _).mp c_2) (Int64.not_lt.mpr h.1)⟩, ht⟩) (fun _ h => by cases h) dX12_in_18
  · refine lv_lload_n hx hb dX12_in_6 rfl (lv_at hl 0 rfl) ?_
    refine lv_lload hx hb dX12_in_7 (lv_at hl 2 rfl) ?_
    refine W.lcmp hx hb dX12_in_9 ?_
    refine lv_if_gt (tgt := 17) hx hb dX12_in_10 (by decide) (fun c_4 => ?_) (fun c_4 => ?_)
    · refine lv_iconst (v := 0) hx hb dX12_in_17 (by decide) ?_
      exact W.zret (v := 0) hx hb hr rfl (fun t ht hW => ⟨0, rfl, Or.inr ⟨rfl, fun h => absurd ((cmp_gt _ _).mp c_4) (Int64.not_lt.mpr h.2)⟩, ht⟩) (fun _ h => by cases h) dX12_in_18
    · refine lv_iconst (v := 1) hx hb dX12_in_13 (by decide) ?_
      refine lv_goto (tgt := 18) hx hb dX12_in_14 (by decide) ?_
      exact W.zret (v := 1) hx hb hr rfl (fun t ht hW => ⟨1, rfl, Or.inl ⟨rfl, Int64.not_lt.mp (fun h => c_2 ((cmp_lt _ _).mpr h)), Int64.not_lt.mp (fun h => c_4 ((cmp_gt _ _).mpr h))⟩, ht⟩) (fun _ h => by cases h) dX12_in_18
def dq_X11_pictureAt : List Cond := [.fieldLink RX11 85 "DiskEvidence" "pictureCount" "I"]
def wq_X11_pictureAt : List Cond := .code yX11_pictureAt cX11_pictureAt 2 (some (.object "DiskEvidence$Picture")) :: (dq_X11_pictureAt ++ (wsX110))
theorem inq_X11_pictureAt_c11 : ∀ w ∈ wsX110, w ∈ wq_X11_pictureAt := fun w h => List.mem_cons_of_mem _ (List.mem_append_right _ (h))
theorem ga_X11_pictureAt : wq_X11_pictureAt.all goodWord = true := by decide +kernel
theorem tdq_X11_pictureAt : ∀ w ∈ dq_X11_pictureAt, w ∈ lw_tbl := fun w h => (goodIn_r (big := lw_tbl) dq_X11_pictureAt [590] (by decide +kernel) (by decide +kernel) w h).1
theorem tq_X11_pictureAt : ∀ w ∈ wq_X11_pictureAt, w ∈ lw_tbl := fun w h => (List.mem_cons.mp h).elim (fun e => by rw [e]; exact List.mem_of_getElem? (i := 745) (by decide +kernel)) (fun h => (List.mem_append.mp h).elim (fun h => tdq_X11_pictureAt w h) (fun h => nX11 w h))
set_option maxHeartbeats 40000000 in
set_option maxRecDepth 100000 in
theorem c_X11_pictureAt (l : Launch) (dC : Nat → ClassId) (dI : Nat → Nat → Nat) (cI cB cZ cJ cC cP cV cT cO : ClassId) (sz : Nat) (h0 : Nat) (g : Nat → Nat)  (p0 : Int32) : Met l yX11_pictureAt wq_X11_pictureAt ({ frames := 0, cells := 0, slots := 0, locals := 0 }) (va_Pc [.ref h0, .int p0] (fun U => U.heap.size = sz ∧ va_P (dC, dI) vwCl [(h0, .inr (11, (fsX g)))] U.heap ∧ va_K (dC, dI) vwCl [(cI, .int), (cB, .byte), (cZ, .boolean), (cJ, .long), (cC, .char), (cP, .object "DiskEvidence$Picture"), (cV, .object "DiskEvidence$Volume"), (cT, .object "DiskEvidence$Tree"), (cO, .object "DiskEvidence$Opening")] U ∧ va_D (fun _ => True) [(h0, .inr (11, (fsX g)))])) (va_Sq (fun r : Option Nat => r = none)) 0 0 (fun _ => False) := by
  refine Met.ofW (cc := cX11_pictureAt) (maxL := 2) (ret := (some (.object "DiskEvidence$Picture"))) (by decide) rfl ?_
  intro p e s m args below meth c s₁ B hml hv
  obtain ⟨rfl, hsz, hP, hK, hD0⟩ := hv
  have hx := B.exec
  have hb := B.bytes
  have hr := B.returns
  have hts := atoms_spec (ws := wq_X11_pictureAt) B.pre
  have hown : s.vm.findClass RX11 = some m.cls := findClass_of_methodNamed B.named
  have hlocks := B.notSynchronized
  subst hsz
  have hD := hD0.self (sz := s.heap.size)
  generalize hAe : va_A [(h0, .inr (11, (fsX g)))] s.heap.size = A at hD ⊢
  have hA : ∀ q : Nat, s.heap.size ≤ q → A q := fun q h => by rw [← hAe]; exact Or.inr h
  have hS : va_S A s.heap s.heap [] := va_S.rf
  have hl := lv_entry ([.ref h0, .int p0]) (n := 2) (Nat.le_of_ble_eq_true rfl)
  rw [lg_entry_eq]
  generalize (lg_sl ([.ref h0, .int p0]) ++ List.replicate (2 - (lg_sl ([.ref h0, .int p0])).length) Slot.unset).toArray = ls at hl ⊢
  have hl : lv_has ls 2 [(0, .ref h0), (1, .int p0)] := hl
  refine lv_iload_n hx hb dX11_pictureAt_0 rfl (lv_at hl 1 rfl) ?_
  refine lv_if_lt (tgt := 12) hx hb dX11_pictureAt_1 (by decide) (fun c_1 => ?_) (fun c_1 => ?_)
  · refine lv_null hx hb dX11_pictureAt_12 ?_
    refine lv_goto (tgt := 22) hx hb dX11_pictureAt_13 (by decide) ?_
    exact W.aret (v := .null) hx hb hr (Or.inl ⟨"DiskEvidence$Picture", rfl⟩) (Or.inl rfl) (fun t ht hW => ⟨none, rfl, rfl, ht⟩) (fun _ h => by cases h) dX11_pictureAt_22
  · refine lv_iload_n hx hb dX11_pictureAt_4 rfl (lv_at hl 1 rfl) ?_
    refine lv_aload_n hx hb dX11_pictureAt_5 rfl (lv_at hl 0 rfl) ?_
    refine va_get (D := (dC, dI)) (ci := 11) (v := .int 0) (C := RX11) (T := TX11) (N := 20) hx hb hts inq_X11_pictureAt_c11 hown hK hP 0 rfl rfl 4 (by decide) (hts (.fieldLink RX11 85 "DiskEvidence" "pictureCount" "I") (List.mem_of_getElem? (i := 1) rfl)) (fun _ h9 => h9) rfl dX11_pictureAt_6 ?_
    refine lv_icmp_lt (tgt := 16) hx hb dX11_pictureAt_9 (by decide) (fun c_2 => absurd c_2 c_1) (fun _ => ?_)
    refine lv_null hx hb dX11_pictureAt_12 ?_
    refine lv_goto (tgt := 22) hx hb dX11_pictureAt_13 (by decide) ?_
    exact W.aret (v := .null) hx hb hr (Or.inl ⟨"DiskEvidence$Picture", rfl⟩) (Or.inl rfl) (fun t ht hW => ⟨none, rfl, rfl, ht⟩) (fun _ h => by cases h) dX11_pictureAt_22
def dq_X11_volumeAt : List Cond := [.fieldLink RX11 143 "DiskEvidence" "volumeCount" "I"]
def wq_X11_volumeAt : List Cond := .code yX11_volumeAt cX11_volumeAt 2 (some (.object "DiskEvidence$Volume")) :: (dq_X11_volumeAt ++ (wsX110))
theorem inq_X11_volumeAt_c11 : ∀ w ∈ wsX110, w ∈ wq_X11_volumeAt := fun w h => List.mem_cons_of_mem _ (List.mem_append_right _ (h))
theorem ga_X11_volumeAt : wq_X11_volumeAt.all goodWord = true := by decide +kernel
theorem tdq_X11_volumeAt : ∀ w ∈ dq_X11_volumeAt, w ∈ lw_tbl := fun w h => (goodIn_r (big := lw_tbl) dq_X11_volumeAt [592] (by decide +kernel) (by decide +kernel) w h).1
theorem tq_X11_volumeAt : ∀ w ∈ wq_X11_volumeAt, w ∈ lw_tbl := fun w h => (List.mem_cons.mp h).elim (fun e => by rw [e]; exact List.mem_of_getElem? (i := 864) (by decide +kernel)) (fun h => (List.mem_append.mp h).elim (fun h => tdq_X11_volumeAt w h) (fun h => nX11 w h))
set_option maxHeartbeats 40000000 in
set_option maxRecDepth 100000 in
theorem c_X11_volumeAt (l : Launch) (dC : Nat → ClassId) (dI : Nat → Nat → Nat) (cI cB cZ cJ cC cP cV cT cO : ClassId) (sz : Nat) (h0 : Nat) (g : Nat → Nat)  (p0 : Int32) : Met l yX11_volumeAt wq_X11_volumeAt ({ frames := 0, cells := 0, slots := 0, locals := 0 }) (va_Pc [.ref h0, .int p0] (fun U => U.heap.size = sz ∧ va_P (dC, dI) vwCl [(h0, .inr (11, (fsX g)))] U.heap ∧ va_K (dC, dI) vwCl [(cI, .int), (cB, .byte), (cZ, .boolean), (cJ, .long), (cC, .char), (cP, .object "DiskEvidence$Picture"), (cV, .object "DiskEvidence$Volume"), (cT, .object "DiskEvidence$Tree"), (cO, .object "DiskEvidence$Opening")] U ∧ va_D (fun _ => True) [(h0, .inr (11, (fsX g)))])) (va_Sq (fun r : Option Nat => r = none)) 0 0 (fun _ => False) := by
  refine Met.ofW (cc := cX11_volumeAt) (maxL := 2) (ret := (some (.object "DiskEvidence$Volume"))) (by decide) rfl ?_
  intro p e s m args below meth c s₁ B hml hv
  obtain ⟨rfl, hsz, hP, hK, hD0⟩ := hv
  have hx := B.exec
  have hb := B.bytes
  have hr := B.returns
  have hts := atoms_spec (ws := wq_X11_volumeAt) B.pre
  have hown : s.vm.findClass RX11 = some m.cls := findClass_of_methodNamed B.named
  have hlocks := B.notSynchronized
  subst hsz
  have hD := hD0.self (sz := s.heap.size)
  generalize hAe : va_A [(h0, .inr (11, (fsX g)))] s.heap.size = A at hD ⊢
  have hA : ∀ q : Nat, s.heap.size ≤ q → A q := fun q h => by rw [← hAe]; exact Or.inr h
  have hS : va_S A s.heap s.heap [] := va_S.rf
  have hl := lv_entry ([.ref h0, .int p0]) (n := 2) (Nat.le_of_ble_eq_true rfl)
  rw [lg_entry_eq]
  generalize (lg_sl ([.ref h0, .int p0]) ++ List.replicate (2 - (lg_sl ([.ref h0, .int p0])).length) Slot.unset).toArray = ls at hl ⊢
  have hl : lv_has ls 2 [(0, .ref h0), (1, .int p0)] := hl
  refine lv_iload_n hx hb dX11_volumeAt_0 rfl (lv_at hl 1 rfl) ?_
  refine lv_if_lt (tgt := 12) hx hb dX11_volumeAt_1 (by decide) (fun c_1 => ?_) (fun c_1 => ?_)
  · refine lv_null hx hb dX11_volumeAt_12 ?_
    refine lv_goto (tgt := 22) hx hb dX11_volumeAt_13 (by decide) ?_
    exact W.aret (v := .null) hx hb hr (Or.inl ⟨"DiskEvidence$Volume", rfl⟩) (Or.inl rfl) (fun t ht hW => ⟨none, rfl, rfl, ht⟩) (fun _ h => by cases h) dX11_volumeAt_22
  · refine lv_iload_n hx hb dX11_volumeAt_4 rfl (lv_at hl 1 rfl) ?_
    refine lv_aload_n hx hb dX11_volumeAt_5 rfl (lv_at hl 0 rfl) ?_
    refine va_get (D := (dC, dI)) (ci := 11) (v := .int 0) (C := RX11) (T := TX11) (N := 20) hx hb hts inq_X11_volumeAt_c11 hown hK hP 0 rfl rfl 6 (by decide) (hts (.fieldLink RX11 143 "DiskEvidence" "volumeCount" "I") (List.mem_of_getElem? (i := 1) rfl)) (fun _ h9 => h9) rfl dX11_volumeAt_6 ?_
    refine lv_icmp_lt (tgt := 16) hx hb dX11_volumeAt_9 (by decide) (fun c_2 => absurd c_2 c_1) (fun _ => ?_)
    refine lv_null hx hb dX11_volumeAt_12 ?_
    refine lv_goto (tgt := 22) hx hb dX11_volumeAt_13 (by decide) ?_
    exact W.aret (v := .null) hx hb hr (Or.inl ⟨"DiskEvidence$Volume", rfl⟩) (Or.inl rfl) (fun t ht hW => ⟨none, rfl, rfl, ht⟩) (fun _ h => by cases h) dX11_volumeAt_22
def dq_X11_treeAt : List Cond := [.fieldLink RX11 188 "DiskEvidence" "treeCount" "I"]
def wq_X11_treeAt : List Cond := .code yX11_treeAt cX11_treeAt 2 (some (.object "DiskEvidence$Tree")) :: (dq_X11_treeAt ++ (wsX110))
theorem inq_X11_treeAt_c11 : ∀ w ∈ wsX110, w ∈ wq_X11_treeAt := fun w h => List.mem_cons_of_mem _ (List.mem_append_right _ (h))
theorem ga_X11_treeAt : wq_X11_treeAt.all goodWord = true := by decide +kernel
theorem tdq_X11_treeAt : ∀ w ∈ dq_X11_treeAt, w ∈ lw_tbl := fun w h => (goodIn_r (big := lw_tbl) dq_X11_treeAt [594] (by decide +kernel) (by decide +kernel) w h).1
theorem tq_X11_treeAt : ∀ w ∈ wq_X11_treeAt, w ∈ lw_tbl := fun w h => (List.mem_cons.mp h).elim (fun e => by rw [e]; exact List.mem_of_getElem? (i := 1745) (by decide +kernel)) (fun h => (List.mem_append.mp h).elim (fun h => tdq_X11_treeAt w h) (fun h => nX11 w h))
set_option maxHeartbeats 40000000 in
set_option maxRecDepth 100000 in
theorem c_X11_treeAt (l : Launch) (dC : Nat → ClassId) (dI : Nat → Nat → Nat) (cI cB cZ cJ cC cP cV cT cO : ClassId) (sz : Nat) (h0 : Nat) (g : Nat → Nat)  (p0 : Int32) : Met l yX11_treeAt wq_X11_treeAt ({ frames := 0, cells := 0, slots := 0, locals := 0 }) (va_Pc [.ref h0, .int p0] (fun U => U.heap.size = sz ∧ va_P (dC, dI) vwCl [(h0, .inr (11, (fsX g)))] U.heap ∧ va_K (dC, dI) vwCl [(cI, .int), (cB, .byte), (cZ, .boolean), (cJ, .long), (cC, .char), (cP, .object "DiskEvidence$Picture"), (cV, .object "DiskEvidence$Volume"), (cT, .object "DiskEvidence$Tree"), (cO, .object "DiskEvidence$Opening")] U ∧ va_D (fun _ => True) [(h0, .inr (11, (fsX g)))])) (va_Sq (fun r : Option Nat => r = none)) 0 0 (fun _ => False) := by
  refine Met.ofW (cc := cX11_treeAt) (maxL := 2) (ret := (some (.object "DiskEvidence$Tree"))) (by decide) rfl ?_
  intro p e s m args below meth c s₁ B hml hv
  obtain ⟨rfl, hsz, hP, hK, hD0⟩ := hv
  have hx := B.exec
  have hb := B.bytes
  have hr := B.returns
  have hts := atoms_spec (ws := wq_X11_treeAt) B.pre
  have hown : s.vm.findClass RX11 = some m.cls := findClass_of_methodNamed B.named
  have hlocks := B.notSynchronized
  subst hsz
  have hD := hD0.self (sz := s.heap.size)
  generalize hAe : va_A [(h0, .inr (11, (fsX g)))] s.heap.size = A at hD ⊢
  have hA : ∀ q : Nat, s.heap.size ≤ q → A q := fun q h => by rw [← hAe]; exact Or.inr h
  have hS : va_S A s.heap s.heap [] := va_S.rf
  have hl := lv_entry ([.ref h0, .int p0]) (n := 2) (Nat.le_of_ble_eq_true rfl)
  rw [lg_entry_eq]
  generalize (lg_sl ([.ref h0, .int p0]) ++ List.replicate (2 - (lg_sl ([.ref h0, .int p0])).length) Slot.unset).toArray = ls at hl ⊢
  have hl : lv_has ls 2 [(0, .ref h0), (1, .int p0)] := hl
  refine lv_iload_n hx hb dX11_treeAt_0 rfl (lv_at hl 1 rfl) ?_
  refine lv_if_lt (tgt := 12) hx hb dX11_treeAt_1 (by decide) (fun c_1 => ?_) (fun c_1 => ?_)
  · refine lv_null hx hb dX11_treeAt_12 ?_
    refine lv_goto (tgt := 22) hx hb dX11_treeAt_13 (by decide) ?_
    exact W.aret (v := .null) hx hb hr (Or.inl ⟨"DiskEvidence$Tree", rfl⟩) (Or.inl rfl) (fun t ht hW => ⟨none, rfl, rfl, ht⟩) (fun _ h => by cases h) dX11_treeAt_22
  · refine lv_iload_n hx hb dX11_treeAt_4 rfl (lv_at hl 1 rfl) ?_
    refine lv_aload_n hx hb dX11_treeAt_5 rfl (lv_at hl 0 rfl) ?_
    refine va_get (D := (dC, dI)) (ci := 11) (v := .int 0) (C := RX11) (T := TX11) (N := 20) hx hb hts inq_X11_treeAt_c11 hown hK hP 0 rfl rfl 8 (by decide) (hts (.fieldLink RX11 188 "DiskEvidence" "treeCount" "I") (List.mem_of_getElem? (i := 1) rfl)) (fun _ h9 => h9) rfl dX11_treeAt_6 ?_
    refine lv_icmp_lt (tgt := 16) hx hb dX11_treeAt_9 (by decide) (fun c_2 => absurd c_2 c_1) (fun _ => ?_)
    refine lv_null hx hb dX11_treeAt_12 ?_
    refine lv_goto (tgt := 22) hx hb dX11_treeAt_13 (by decide) ?_
    exact W.aret (v := .null) hx hb hr (Or.inl ⟨"DiskEvidence$Tree", rfl⟩) (Or.inl rfl) (fun t ht hW => ⟨none, rfl, rfl, ht⟩) (fun _ h => by cases h) dX11_treeAt_22
def dq_X11_openingAt : List Cond := [.fieldLink RX11 290 "DiskEvidence" "openingCount" "I"]
def wq_X11_openingAt : List Cond := .code yX11_openingAt cX11_openingAt 2 (some (.object "DiskEvidence$Opening")) :: (dq_X11_openingAt ++ (wsX110))
theorem inq_X11_openingAt_c11 : ∀ w ∈ wsX110, w ∈ wq_X11_openingAt := fun w h => List.mem_cons_of_mem _ (List.mem_append_right _ (h))
theorem ga_X11_openingAt : wq_X11_openingAt.all goodWord = true := by decide +kernel
theorem tdq_X11_openingAt : ∀ w ∈ dq_X11_openingAt, w ∈ lw_tbl := fun w h => (goodIn_r (big := lw_tbl) dq_X11_openingAt [596] (by decide +kernel) (by decide +kernel) w h).1
theorem tq_X11_openingAt : ∀ w ∈ wq_X11_openingAt, w ∈ lw_tbl := fun w h => (List.mem_cons.mp h).elim (fun e => by rw [e]; exact List.mem_of_getElem? (i := 1876) (by decide +kernel)) (fun h => (List.mem_append.mp h).elim (fun h => tdq_X11_openingAt w h) (fun h => nX11 w h))
set_option maxHeartbeats 40000000 in
set_option maxRecDepth 100000 in
theorem c_X11_openingAt (l : Launch) (dC : Nat → ClassId) (dI : Nat → Nat → Nat) (cI cB cZ cJ cC cP cV cT cO : ClassId) (sz : Nat) (h0 : Nat) (g : Nat → Nat)  (p0 : Int32) : Met l yX11_openingAt wq_X11_openingAt ({ frames := 0, cells := 0, slots := 0, locals := 0 }) (va_Pc [.ref h0, .int p0] (fun U => U.heap.size = sz ∧ va_P (dC, dI) vwCl [(h0, .inr (11, (fsX g)))] U.heap ∧ va_K (dC, dI) vwCl [(cI, .int), (cB, .byte), (cZ, .boolean), (cJ, .long), (cC, .char), (cP, .object "DiskEvidence$Picture"), (cV, .object "DiskEvidence$Volume"), (cT, .object "DiskEvidence$Tree"), (cO, .object "DiskEvidence$Opening")] U ∧ va_D (fun _ => True) [(h0, .inr (11, (fsX g)))])) (va_Sq (fun r : Option Nat => r = none)) 0 0 (fun _ => False) := by
  refine Met.ofW (cc := cX11_openingAt) (maxL := 2) (ret := (some (.object "DiskEvidence$Opening"))) (by decide) rfl ?_
  intro p e s m args below meth c s₁ B hml hv
  obtain ⟨rfl, hsz, hP, hK, hD0⟩ := hv
  have hx := B.exec
  have hb := B.bytes
  have hr := B.returns
  have hts := atoms_spec (ws := wq_X11_openingAt) B.pre
  have hown : s.vm.findClass RX11 = some m.cls := findClass_of_methodNamed B.named
  have hlocks := B.notSynchronized
  subst hsz
  have hD := hD0.self (sz := s.heap.size)
  generalize hAe : va_A [(h0, .inr (11, (fsX g)))] s.heap.size = A at hD ⊢
  have hA : ∀ q : Nat, s.heap.size ≤ q → A q := fun q h => by rw [← hAe]; exact Or.inr h
  have hS : va_S A s.heap s.heap [] := va_S.rf
  have hl := lv_entry ([.ref h0, .int p0]) (n := 2) (Nat.le_of_ble_eq_true rfl)
  rw [lg_entry_eq]
  generalize (lg_sl ([.ref h0, .int p0]) ++ List.replicate (2 - (lg_sl ([.ref h0, .int p0])).length) Slot.unset).toArray = ls at hl ⊢
  have hl : lv_has ls 2 [(0, .ref h0), (1, .int p0)] := hl
  refine lv_iload_n hx hb dX11_openingAt_0 rfl (lv_at hl 1 rfl) ?_
  refine lv_if_lt (tgt := 12) hx hb dX11_openingAt_1 (by decide) (fun c_1 => ?_) (fun c_1 => ?_)
  · refine lv_null hx hb dX11_openingAt_12 ?_
    refine lv_goto (tgt := 22) hx hb dX11_openingAt_13 (by decide) ?_
    exact W.aret (v := .null) hx hb hr (Or.inl ⟨"DiskEvidence$Opening", rfl⟩) (Or.inl rfl) (fun t ht hW => ⟨none, rfl, rfl, ht⟩) (fun _ h => by cases h) dX11_openingAt_22
  · refine lv_iload_n hx hb dX11_openingAt_4 rfl (lv_at hl 1 rfl) ?_
    refine lv_aload_n hx hb dX11_openingAt_5 rfl (lv_at hl 0 rfl) ?_
    refine va_get (D := (dC, dI)) (ci := 11) (v := .int 0) (C := RX11) (T := TX11) (N := 20) hx hb hts inq_X11_openingAt_c11 hown hK hP 0 rfl rfl 10 (by decide) (hts (.fieldLink RX11 290 "DiskEvidence" "openingCount" "I") (List.mem_of_getElem? (i := 1) rfl)) (fun _ h9 => h9) rfl dX11_openingAt_6 ?_
    refine lv_icmp_lt (tgt := 16) hx hb dX11_openingAt_9 (by decide) (fun c_2 => absurd c_2 c_1) (fun _ => ?_)
    refine lv_null hx hb dX11_openingAt_12 ?_
    refine lv_goto (tgt := 22) hx hb dX11_openingAt_13 (by decide) ?_
    exact W.aret (v := .null) hx hb hr (Or.inl ⟨"DiskEvidence$Opening", rfl⟩) (Or.inl rfl) (fun t ht hW => ⟨none, rfl, rfl, ht⟩) (fun _ h => by cases h) dX11_openingAt_22
def dq_X11_itemIn : List Cond := []
def wq_X11_itemIn : List Cond := .code yX11_itemIn cX11_itemIn 2 (some (.object "DiskEvidence$Item")) :: (dq_X11_itemIn)
theorem ga_X11_itemIn : wq_X11_itemIn.all goodWord = true := by decide +kernel
theorem tdq_X11_itemIn : ∀ w ∈ dq_X11_itemIn, w ∈ lw_tbl := fun w h => (goodIn_r (big := lw_tbl) dq_X11_itemIn [] (by decide +kernel) (by decide +kernel) w h).1
theorem tq_X11_itemIn : ∀ w ∈ wq_X11_itemIn, w ∈ lw_tbl := fun w h => (List.mem_cons.mp h).elim (fun e => by rw [e]; exact List.mem_of_getElem? (i := 1795) (by decide +kernel)) (fun h => tdq_X11_itemIn w h)
set_option maxHeartbeats 40000000 in
set_option maxRecDepth 100000 in
theorem c_X11_itemIn (l : Launch) (p1 : Int32) : Met l yX11_itemIn wq_X11_itemIn ({ frames := 0, cells := 0, slots := 0, locals := 0 }) (va_Pc [.null, .int p1] (fun U => True)) (va_Sq (fun r : Option Nat => r = none)) 0 0 (fun _ => False) := by
  refine Met.ofW (cc := cX11_itemIn) (maxL := 2) (ret := (some (.object "DiskEvidence$Item"))) (by decide) rfl ?_
  intro p e s m args below meth c s₁ B hml hv
  obtain ⟨rfl, -⟩ := hv
  have hx := B.exec
  have hb := B.bytes
  have hr := B.returns
  have hts := atoms_spec (ws := wq_X11_itemIn) B.pre
  have hown : s.vm.findClass RX11 = some m.cls := findClass_of_methodNamed B.named
  have hlocks := B.notSynchronized
  have hl := lv_entry ([.null, .int p1]) (n := 2) (Nat.le_of_ble_eq_true rfl)
  rw [lg_entry_eq]
  generalize (lg_sl ([.null, .int p1]) ++ List.replicate (2 - (lg_sl ([.null, .int p1])).length) Slot.unset).toArray = ls at hl ⊢
  have hl : lv_has ls 2 [(0, .null), (1, .int p1)] := hl
  refine lv_aload_nN hx hb dX11_itemIn_0 rfl (lv_at hl 0 rfl) ?_
  refine lv_ifnullN (tgt := 16) hx hb dX11_itemIn_1 (by decide) ?_
  refine lv_null hx hb dX11_itemIn_16 ?_
  refine lv_goto (tgt := 26) hx hb dX11_itemIn_17 (by decide) ?_
  exact W.aret (v := .null) hx hb hr (Or.inl ⟨"DiskEvidence$Item", rfl⟩) (Or.inl rfl) (fun t ht hW => ⟨none, rfl, rfl, ht⟩) (fun _ h => by cases h) dX11_itemIn_26
def dq_X12_isPicture : List Cond := [.fieldLink RX12 393 "DiskEvidenceModel" "pictures" "I", .methodLink RX12 372 yX12_in, .static yX12_in, .initialized RX12]
def wq_X12_isPicture : List Cond := .code yX12_isPicture cX12_isPicture 2 (some .boolean) :: (dq_X12_isPicture ++ (wsX120 ++ (wq_X12_in)))
theorem inq_X12_isPicture_c12 : ∀ w ∈ wsX120, w ∈ wq_X12_isPicture := fun w h => List.mem_cons_of_mem _ (List.mem_append_right _ (List.mem_append_left _ h))
theorem mq_X12_isPicture_X12_in : ∀ w ∈ wq_X12_in, w ∈ wq_X12_isPicture := fun w h => List.mem_cons_of_mem _ (List.mem_append_right _ (List.mem_append_right _ (h)))
theorem ga_X12_isPicture : wq_X12_isPicture.all goodWord = true := by decide +kernel
theorem gq_X12_isPicture_X12_in_372 : GoodIn wq_X12_isPicture (va_wsS RX12 372 yX12_in wq_X12_in) := goodIn_app (goodIn_r _ [2, 3, 4] (by decide +kernel) (by decide +kernel)) (goodIn_sub mq_X12_isPicture_X12_in ga_X12_in)
theorem tdq_X12_isPicture : ∀ w ∈ dq_X12_isPicture, w ∈ lw_tbl := fun w h => (goodIn_r (big := lw_tbl) dq_X12_isPicture [2252, 2772, 2773, 296] (by decide +kernel) (by decide +kernel) w h).1
theorem tq_X12_isPicture : ∀ w ∈ wq_X12_isPicture, w ∈ lw_tbl := fun w h => (List.mem_cons.mp h).elim (fun e => by rw [e]; exact List.mem_of_getElem? (i := 2825) (by decide +kernel)) (fun h => (List.mem_append.mp h).elim (fun h => tdq_X12_isPicture w h) (fun h => (List.mem_append.mp h).elim (fun h => nX12 w h) (fun h => tq_X12_in w h)))
set_option maxHeartbeats 40000000 in
set_option maxRecDepth 100000 in
theorem c_X12_isPicture (l : Launch) (dC : Nat → ClassId) (dI : Nat → Nat → Nat) (cI cB cZ cJ cC cP cV cT cO : ClassId) (sz : Nat) (h0 : Nat) (g : Nat → Nat)  (p0 : Int32) : Met l yX12_isPicture wq_X12_isPicture ({ frames := 1, cells := 0, slots := 0, locals := 25 }) (va_Pc [.ref h0, .int p0] (fun U => U.heap.size = sz ∧ va_P (dC, dI) vwCl [(h0, .inr (12, (fsM g)))] U.heap ∧ va_K (dC, dI) vwCl [(cI, .int), (cB, .byte), (cZ, .boolean), (cJ, .long), (cC, .char), (cP, .object "DiskEvidence$Picture"), (cV, .object "DiskEvidence$Volume"), (cT, .object "DiskEvidence$Tree"), (cO, .object "DiskEvidence$Opening")] U ∧ va_D (fun _ => True) [(h0, .inr (12, (fsM g)))])) (vp_Si (fun r : Int32 => r = 0)) 0 0 (fun _ => False) := by
  refine Met.ofW (cc := cX12_isPicture) (maxL := 2) (ret := (some .boolean)) (by decide) rfl ?_
  intro p e s m args below meth c s₁ B hml hv
  obtain ⟨rfl, hsz, hP, hK, hD0⟩ := hv
  have hx := B.exec
  have hb := B.bytes
  have hr := B.returns
  have hts := atoms_spec (ws := wq_X12_isPicture) B.pre
  have hown : s.vm.findClass RX12 = some m.cls := findClass_of_methodNamed B.named
  have hlocks := B.notSynchronized
  subst hsz
  have hD := hD0.self (sz := s.heap.size)
  generalize hAe : va_A [(h0, .inr (12, (fsM g)))] s.heap.size = A at hD ⊢
  have hA : ∀ q : Nat, s.heap.size ≤ q → A q := fun q h => by rw [← hAe]; exact Or.inr h
  have hS : va_S A s.heap s.heap [] := va_S.rf
  have hl := lv_entry ([.ref h0, .int p0]) (n := 2) (Nat.le_of_ble_eq_true rfl)
  rw [lg_entry_eq]
  generalize (lg_sl ([.ref h0, .int p0]) ++ List.replicate (2 - (lg_sl ([.ref h0, .int p0])).length) Slot.unset).toArray = ls at hl ⊢
  have hl : lv_has ls 2 [(0, .ref h0), (1, .int p0)] := hl
  refine lv_iload_n hx hb dX12_isPicture_0 rfl (lv_at hl 1 rfl) ?_
  refine lv_i2l hx hb dX12_isPicture_1 rfl ?_
  refine lv_lconst (v := 0) hx hb dX12_isPicture_2 (by decide) ?_
  refine lv_aload_n hx hb dX12_isPicture_3 rfl (lv_at hl 0 rfl) ?_
  refine va_get (D := (dC, dI)) (ci := 12) (v := .int 0) (C := RX12) (T := TX12) (N := 172) hx hb hts inq_X12_isPicture_c12 hown hK hP 0 rfl rfl 3 (by decide) (hts (.fieldLink RX12 393 "DiskEvidenceModel" "pictures" "I") (List.mem_of_getElem? (i := 1) rfl)) (fun _ h9 => h9) rfl dX12_isPicture_4 ?_
  refine lv_iconst (v := 1) hx hb dX12_isPicture_7 (by decide) ?_
  refine lv_isub hx hb dX12_isPicture_8 ?_
  refine lv_topi (fun f_1 ef_1 => ?_)
  obtain rfl : (-1 : Int32) = f_1 := (ef_1.trans (by decide)).symm
  refine lv_i2l (v := (-1)) hx hb dX12_isPicture_9 (by decide) ?_
  refine vp_callSi (va_Run.run (va_runS (As := [.long p0.toInt64, .long 0, .long (-1)]) (rest := []) ⟨hx, hb, hml, hown, hts⟩ (c_X12_in l p0.toInt64 0 (-1)) (va_cwS 3 hts gq_X12_isPicture_X12_in_372 rfl rfl rfl (by decide +kernel) ⟨Nat.le_of_ble_eq_true rfl, Nat.le_of_ble_eq_true rfl⟩) ⟨fun a U g mk q => q, fun U hU hW => ⟨rfl, trivial⟩⟩ rfl rfl hl.1 rfl (lv_room (Nat.le_of_ble_eq_true rfl)) dX12_isPicture_10 ⟨Nat.le_of_ble_eq_true rfl, Nat.le_of_ble_eq_true rfl⟩)) (fun r_2 hr_2 => ?_)
  rcases hr_2 with ⟨rfl, hlo_3, hhi_3⟩ | ⟨rfl, hno_3⟩
  · exact absurd (Int64.le_trans hlo_3 hhi_3) (by decide)
  · exact W.zret (v := 0) hx hb hr rfl (fun t ht hW => ⟨0, rfl, rfl, ht⟩) (fun _ h => by cases h) dX12_isPicture_13
def dq_X12_isVolume : List Cond := [.fieldLink RX12 466 "DiskEvidenceModel" "volumes" "I", .methodLink RX12 372 yX12_in, .static yX12_in, .initialized RX12]
def wq_X12_isVolume : List Cond := .code yX12_isVolume cX12_isVolume 2 (some .boolean) :: (dq_X12_isVolume ++ (wsX120 ++ (wq_X12_in)))
theorem inq_X12_isVolume_c12 : ∀ w ∈ wsX120, w ∈ wq_X12_isVolume := fun w h => List.mem_cons_of_mem _ (List.mem_append_right _ (List.mem_append_left _ h))
theorem mq_X12_isVolume_X12_in : ∀ w ∈ wq_X12_in, w ∈ wq_X12_isVolume := fun w h => List.mem_cons_of_mem _ (List.mem_append_right _ (List.mem_append_right _ (h)))
theorem ga_X12_isVolume : wq_X12_isVolume.all goodWord = true := by decide +kernel
theorem gq_X12_isVolume_X12_in_372 : GoodIn wq_X12_isVolume (va_wsS RX12 372 yX12_in wq_X12_in) := goodIn_app (goodIn_r _ [2, 3, 4] (by decide +kernel) (by decide +kernel)) (goodIn_sub mq_X12_isVolume_X12_in ga_X12_in)
theorem tdq_X12_isVolume : ∀ w ∈ dq_X12_isVolume, w ∈ lw_tbl := fun w h => (goodIn_r (big := lw_tbl) dq_X12_isVolume [2256, 2772, 2773, 296] (by decide +kernel) (by decide +kernel) w h).1
theorem tq_X12_isVolume : ∀ w ∈ wq_X12_isVolume, w ∈ lw_tbl := fun w h => (List.mem_cons.mp h).elim (fun e => by rw [e]; exact List.mem_of_getElem? (i := 2905) (by decide +kernel)) (fun h => (List.mem_append.mp h).elim (fun h => tdq_X12_isVolume w h) (fun h => (List.mem_append.mp h).elim (fun h => nX12 w h) (fun h => tq_X12_in w h)))
set_option maxHeartbeats 40000000 in
set_option maxRecDepth 100000 in
theorem c_X12_isVolume (l : Launch) (dC : Nat → ClassId) (dI : Nat → Nat → Nat) (cI cB cZ cJ cC cP cV cT cO : ClassId) (sz : Nat) (h0 : Nat) (g : Nat → Nat)  (p0 : Int32) : Met l yX12_isVolume wq_X12_isVolume ({ frames := 1, cells := 0, slots := 0, locals := 25 }) (va_Pc [.ref h0, .int p0] (fun U => U.heap.size = sz ∧ va_P (dC, dI) vwCl [(h0, .inr (12, (fsM g)))] U.heap ∧ va_K (dC, dI) vwCl [(cI, .int), (cB, .byte), (cZ, .boolean), (cJ, .long), (cC, .char), (cP, .object "DiskEvidence$Picture"), (cV, .object "DiskEvidence$Volume"), (cT, .object "DiskEvidence$Tree"), (cO, .object "DiskEvidence$Opening")] U ∧ va_D (fun _ => True) [(h0, .inr (12, (fsM g)))])) (vp_Si (fun r : Int32 => r = 0)) 0 0 (fun _ => False) := by
  refine Met.ofW (cc := cX12_isVolume) (maxL := 2) (ret := (some .boolean)) (by decide) rfl ?_
  intro p e s m args below meth c s₁ B hml hv
  obtain ⟨rfl, hsz, hP, hK, hD0⟩ := hv
  have hx := B.exec
  have hb := B.bytes
  have hr := B.returns
  have hts := atoms_spec (ws := wq_X12_isVolume) B.pre
  have hown : s.vm.findClass RX12 = some m.cls := findClass_of_methodNamed B.named
  have hlocks := B.notSynchronized
  subst hsz
  have hD := hD0.self (sz := s.heap.size)
  generalize hAe : va_A [(h0, .inr (12, (fsM g)))] s.heap.size = A at hD ⊢
  have hA : ∀ q : Nat, s.heap.size ≤ q → A q := fun q h => by rw [← hAe]; exact Or.inr h
  have hS : va_S A s.heap s.heap [] := va_S.rf
  have hl := lv_entry ([.ref h0, .int p0]) (n := 2) (Nat.le_of_ble_eq_true rfl)
  rw [lg_entry_eq]
  generalize (lg_sl ([.ref h0, .int p0]) ++ List.replicate (2 - (lg_sl ([.ref h0, .int p0])).length) Slot.unset).toArray = ls at hl ⊢
  have hl : lv_has ls 2 [(0, .ref h0), (1, .int p0)] := hl
  refine lv_iload_n hx hb dX12_isVolume_0 rfl (lv_at hl 1 rfl) ?_
  refine lv_i2l hx hb dX12_isVolume_1 rfl ?_
  refine lv_lconst (v := 0) hx hb dX12_isVolume_2 (by decide) ?_
  refine lv_aload_n hx hb dX12_isVolume_3 rfl (lv_at hl 0 rfl) ?_
  refine va_get (D := (dC, dI)) (ci := 12) (v := .int 0) (C := RX12) (T := TX12) (N := 172) hx hb hts inq_X12_isVolume_c12 hown hK hP 0 rfl rfl 7 (by decide) (hts (.fieldLink RX12 466 "DiskEvidenceModel" "volumes" "I") (List.mem_of_getElem? (i := 1) rfl)) (fun _ h9 => h9) rfl dX12_isVolume_4 ?_
  refine lv_iconst (v := 1) hx hb dX12_isVolume_7 (by decide) ?_
  refine lv_isub hx hb dX12_isVolume_8 ?_
  refine lv_topi (fun f_1 ef_1 => ?_)
  obtain rfl : (-1 : Int32) = f_1 := (ef_1.trans (by decide)).symm
  refine lv_i2l (v := (-1)) hx hb dX12_isVolume_9 (by decide) ?_
  refine vp_callSi (va_Run.run (va_runS (As := [.long p0.toInt64, .long 0, .long (-1)]) (rest := []) ⟨hx, hb, hml, hown, hts⟩ (c_X12_in l p0.toInt64 0 (-1)) (va_cwS 3 hts gq_X12_isVolume_X12_in_372 rfl rfl rfl (by decide +kernel) ⟨Nat.le_of_ble_eq_true rfl, Nat.le_of_ble_eq_true rfl⟩) ⟨fun a U g mk q => q, fun U hU hW => ⟨rfl, trivial⟩⟩ rfl rfl hl.1 rfl (lv_room (Nat.le_of_ble_eq_true rfl)) dX12_isVolume_10 ⟨Nat.le_of_ble_eq_true rfl, Nat.le_of_ble_eq_true rfl⟩)) (fun r_2 hr_2 => ?_)
  rcases hr_2 with ⟨rfl, hlo_3, hhi_3⟩ | ⟨rfl, hno_3⟩
  · exact absurd (Int64.le_trans hlo_3 hhi_3) (by decide)
  · exact W.zret (v := 0) hx hb hr rfl (fun t ht hW => ⟨0, rfl, rfl, ht⟩) (fun _ h => by cases h) dX12_isVolume_13
def dq_X12_isTree : List Cond := [.fieldLink RX12 794 "DiskEvidenceModel" "trees" "I", .methodLink RX12 372 yX12_in, .static yX12_in, .initialized RX12]
def wq_X12_isTree : List Cond := .code yX12_isTree cX12_isTree 2 (some .boolean) :: (dq_X12_isTree ++ (wsX120 ++ (wq_X12_in)))
theorem inq_X12_isTree_c12 : ∀ w ∈ wsX120, w ∈ wq_X12_isTree := fun w h => List.mem_cons_of_mem _ (List.mem_append_right _ (List.mem_append_left _ h))
theorem mq_X12_isTree_X12_in : ∀ w ∈ wq_X12_in, w ∈ wq_X12_isTree := fun w h => List.mem_cons_of_mem _ (List.mem_append_right _ (List.mem_append_right _ (h)))
theorem ga_X12_isTree : wq_X12_isTree.all goodWord = true := by decide +kernel
theorem gq_X12_isTree_X12_in_372 : GoodIn wq_X12_isTree (va_wsS RX12 372 yX12_in wq_X12_in) := goodIn_app (goodIn_r _ [2, 3, 4] (by decide +kernel) (by decide +kernel)) (goodIn_sub mq_X12_isTree_X12_in ga_X12_in)
theorem tdq_X12_isTree : ∀ w ∈ dq_X12_isTree, w ∈ lw_tbl := fun w h => (goodIn_r (big := lw_tbl) dq_X12_isTree [2308, 2772, 2773, 296] (by decide +kernel) (by decide +kernel) w h).1
theorem tq_X12_isTree : ∀ w ∈ wq_X12_isTree, w ∈ lw_tbl := fun w h => (List.mem_cons.mp h).elim (fun e => by rw [e]; exact List.mem_of_getElem? (i := 3405) (by decide +kernel)) (fun h => (List.mem_append.mp h).elim (fun h => tdq_X12_isTree w h) (fun h => (List.mem_append.mp h).elim (fun h => nX12 w h) (fun h => tq_X12_in w h)))
set_option maxHeartbeats 40000000 in
set_option maxRecDepth 100000 in
theorem c_X12_isTree (l : Launch) (dC : Nat → ClassId) (dI : Nat → Nat → Nat) (cI cB cZ cJ cC cP cV cT cO : ClassId) (sz : Nat) (h0 : Nat) (g : Nat → Nat)  (p0 : Int32) : Met l yX12_isTree wq_X12_isTree ({ frames := 1, cells := 0, slots := 0, locals := 25 }) (va_Pc [.ref h0, .int p0] (fun U => U.heap.size = sz ∧ va_P (dC, dI) vwCl [(h0, .inr (12, (fsM g)))] U.heap ∧ va_K (dC, dI) vwCl [(cI, .int), (cB, .byte), (cZ, .boolean), (cJ, .long), (cC, .char), (cP, .object "DiskEvidence$Picture"), (cV, .object "DiskEvidence$Volume"), (cT, .object "DiskEvidence$Tree"), (cO, .object "DiskEvidence$Opening")] U ∧ va_D (fun _ => True) [(h0, .inr (12, (fsM g)))])) (vp_Si (fun r : Int32 => r = 0)) 0 0 (fun _ => False) := by
  refine Met.ofW (cc := cX12_isTree) (maxL := 2) (ret := (some .boolean)) (by decide) rfl ?_
  intro p e s m args below meth c s₁ B hml hv
  obtain ⟨rfl, hsz, hP, hK, hD0⟩ := hv
  have hx := B.exec
  have hb := B.bytes
  have hr := B.returns
  have hts := atoms_spec (ws := wq_X12_isTree) B.pre
  have hown : s.vm.findClass RX12 = some m.cls := findClass_of_methodNamed B.named
  have hlocks := B.notSynchronized
  subst hsz
  have hD := hD0.self (sz := s.heap.size)
  generalize hAe : va_A [(h0, .inr (12, (fsM g)))] s.heap.size = A at hD ⊢
  have hA : ∀ q : Nat, s.heap.size ≤ q → A q := fun q h => by rw [← hAe]; exact Or.inr h
  have hS : va_S A s.heap s.heap [] := va_S.rf
  have hl := lv_entry ([.ref h0, .int p0]) (n := 2) (Nat.le_of_ble_eq_true rfl)
  rw [lg_entry_eq]
  generalize (lg_sl ([.ref h0, .int p0]) ++ List.replicate (2 - (lg_sl ([.ref h0, .int p0])).length) Slot.unset).toArray = ls at hl ⊢
  have hl : lv_has ls 2 [(0, .ref h0), (1, .int p0)] := hl
  refine lv_iload_n hx hb dX12_isTree_0 rfl (lv_at hl 1 rfl) ?_
  refine lv_i2l hx hb dX12_isTree_1 rfl ?_
  refine lv_lconst (v := 0) hx hb dX12_isTree_2 (by decide) ?_
  refine lv_aload_n hx hb dX12_isTree_3 rfl (lv_at hl 0 rfl) ?_
  refine va_get (D := (dC, dI)) (ci := 12) (v := .int 0) (C := RX12) (T := TX12) (N := 172) hx hb hts inq_X12_isTree_c12 hown hK hP 0 rfl rfl 59 (by decide) (hts (.fieldLink RX12 794 "DiskEvidenceModel" "trees" "I") (List.mem_of_getElem? (i := 1) rfl)) (fun _ h9 => h9) rfl dX12_isTree_4 ?_
  refine lv_iconst (v := 1) hx hb dX12_isTree_7 (by decide) ?_
  refine lv_isub hx hb dX12_isTree_8 ?_
  refine lv_topi (fun f_1 ef_1 => ?_)
  obtain rfl : (-1 : Int32) = f_1 := (ef_1.trans (by decide)).symm
  refine lv_i2l (v := (-1)) hx hb dX12_isTree_9 (by decide) ?_
  refine vp_callSi (va_Run.run (va_runS (As := [.long p0.toInt64, .long 0, .long (-1)]) (rest := []) ⟨hx, hb, hml, hown, hts⟩ (c_X12_in l p0.toInt64 0 (-1)) (va_cwS 3 hts gq_X12_isTree_X12_in_372 rfl rfl rfl (by decide +kernel) ⟨Nat.le_of_ble_eq_true rfl, Nat.le_of_ble_eq_true rfl⟩) ⟨fun a U g mk q => q, fun U hU hW => ⟨rfl, trivial⟩⟩ rfl rfl hl.1 rfl (lv_room (Nat.le_of_ble_eq_true rfl)) dX12_isTree_10 ⟨Nat.le_of_ble_eq_true rfl, Nat.le_of_ble_eq_true rfl⟩)) (fun r_2 hr_2 => ?_)
  rcases hr_2 with ⟨rfl, hlo_3, hhi_3⟩ | ⟨rfl, hno_3⟩
  · exact absurd (Int64.le_trans hlo_3 hhi_3) (by decide)
  · exact W.zret (v := 0) hx hb hr rfl (fun t ht hW => ⟨0, rfl, rfl, ht⟩) (fun _ h => by cases h) dX12_isTree_13
def dq_X12_isOpen : List Cond := [.fieldLink RX12 983 "DiskEvidenceModel" "opens" "I", .methodLink RX12 372 yX12_in, .static yX12_in, .initialized RX12]
def wq_X12_isOpen : List Cond := .code yX12_isOpen cX12_isOpen 2 (some .boolean) :: (dq_X12_isOpen ++ (wsX120 ++ (wq_X12_in)))
theorem inq_X12_isOpen_c12 : ∀ w ∈ wsX120, w ∈ wq_X12_isOpen := fun w h => List.mem_cons_of_mem _ (List.mem_append_right _ (List.mem_append_left _ h))
theorem mq_X12_isOpen_X12_in : ∀ w ∈ wq_X12_in, w ∈ wq_X12_isOpen := fun w h => List.mem_cons_of_mem _ (List.mem_append_right _ (List.mem_append_right _ (h)))
theorem ga_X12_isOpen : wq_X12_isOpen.all goodWord = true := by decide +kernel
theorem gq_X12_isOpen_X12_in_372 : GoodIn wq_X12_isOpen (va_wsS RX12 372 yX12_in wq_X12_in) := goodIn_app (goodIn_r _ [2, 3, 4] (by decide +kernel) (by decide +kernel)) (goodIn_sub mq_X12_isOpen_X12_in ga_X12_in)
theorem tdq_X12_isOpen : ∀ w ∈ dq_X12_isOpen, w ∈ lw_tbl := fun w h => (goodIn_r (big := lw_tbl) dq_X12_isOpen [2356, 2772, 2773, 296] (by decide +kernel) (by decide +kernel) w h).1
theorem tq_X12_isOpen : ∀ w ∈ wq_X12_isOpen, w ∈ lw_tbl := fun w h => (List.mem_cons.mp h).elim (fun e => by rw [e]; exact List.mem_of_getElem? (i := 3453) (by decide +kernel)) (fun h => (List.mem_append.mp h).elim (fun h => tdq_X12_isOpen w h) (fun h => (List.mem_append.mp h).elim (fun h => nX12 w h) (fun h => tq_X12_in w h)))
set_option maxHeartbeats 40000000 in
set_option maxRecDepth 100000 in
theorem c_X12_isOpen (l : Launch) (dC : Nat → ClassId) (dI : Nat → Nat → Nat) (cI cB cZ cJ cC cP cV cT cO : ClassId) (sz : Nat) (h0 : Nat) (g : Nat → Nat)  (p0 : Int32) : Met l yX12_isOpen wq_X12_isOpen ({ frames := 1, cells := 0, slots := 0, locals := 25 }) (va_Pc [.ref h0, .int p0] (fun U => U.heap.size = sz ∧ va_P (dC, dI) vwCl [(h0, .inr (12, (fsM g)))] U.heap ∧ va_K (dC, dI) vwCl [(cI, .int), (cB, .byte), (cZ, .boolean), (cJ, .long), (cC, .char), (cP, .object "DiskEvidence$Picture"), (cV, .object "DiskEvidence$Volume"), (cT, .object "DiskEvidence$Tree"), (cO, .object "DiskEvidence$Opening")] U ∧ va_D (fun _ => True) [(h0, .inr (12, (fsM g)))])) (vp_Si (fun r : Int32 => r = 0)) 0 0 (fun _ => False) := by
  refine Met.ofW (cc := cX12_isOpen) (maxL := 2) (ret := (some .boolean)) (by decide) rfl ?_
  intro p e s m args below meth c s₁ B hml hv
  obtain ⟨rfl, hsz, hP, hK, hD0⟩ := hv
  have hx := B.exec
  have hb := B.bytes
  have hr := B.returns
  have hts := atoms_spec (ws := wq_X12_isOpen) B.pre
  have hown : s.vm.findClass RX12 = some m.cls := findClass_of_methodNamed B.named
  have hlocks := B.notSynchronized
  subst hsz
  have hD := hD0.self (sz := s.heap.size)
  generalize hAe : va_A [(h0, .inr (12, (fsM g)))] s.heap.size = A at hD ⊢
  have hA : ∀ q : Nat, s.heap.size ≤ q → A q := fun q h => by rw [← hAe]; exact Or.inr h
  have hS : va_S A s.heap s.heap [] := va_S.rf
  have hl := lv_entry ([.ref h0, .int p0]) (n := 2) (Nat.le_of_ble_eq_true rfl)
  rw [lg_entry_eq]
  generalize (lg_sl ([.ref h0, .int p0]) ++ List.replicate (2 - (lg_sl ([.ref h0, .int p0])).length) Slot.unset).toArray = ls at hl ⊢
  have hl : lv_has ls 2 [(0, .ref h0), (1, .int p0)] := hl
  refine lv_iload_n hx hb dX12_isOpen_0 rfl (lv_at hl 1 rfl) ?_
  refine lv_i2l hx hb dX12_isOpen_1 rfl ?_
  refine lv_lconst (v := 0) hx hb dX12_isOpen_2 (by decide) ?_
  refine lv_aload_n hx hb dX12_isOpen_3 rfl (lv_at hl 0 rfl) ?_
  refine va_get (D := (dC, dI)) (ci := 12) (v := .int 0) (C := RX12) (T := TX12) (N := 172) hx hb hts inq_X12_isOpen_c12 hown hK hP 0 rfl rfl 107 (by decide) (hts (.fieldLink RX12 983 "DiskEvidenceModel" "opens" "I") (List.mem_of_getElem? (i := 1) rfl)) (fun _ h9 => h9) rfl dX12_isOpen_4 ?_
  refine lv_iconst (v := 1) hx hb dX12_isOpen_7 (by decide) ?_
  refine lv_isub hx hb dX12_isOpen_8 ?_
  refine lv_topi (fun f_1 ef_1 => ?_)
  obtain rfl : (-1 : Int32) = f_1 := (ef_1.trans (by decide)).symm
  refine lv_i2l (v := (-1)) hx hb dX12_isOpen_9 (by decide) ?_
  refine vp_callSi (va_Run.run (va_runS (As := [.long p0.toInt64, .long 0, .long (-1)]) (rest := []) ⟨hx, hb, hml, hown, hts⟩ (c_X12_in l p0.toInt64 0 (-1)) (va_cwS 3 hts gq_X12_isOpen_X12_in_372 rfl rfl rfl (by decide +kernel) ⟨Nat.le_of_ble_eq_true rfl, Nat.le_of_ble_eq_true rfl⟩) ⟨fun a U g mk q => q, fun U hU hW => ⟨rfl, trivial⟩⟩ rfl rfl hl.1 rfl (lv_room (Nat.le_of_ble_eq_true rfl)) dX12_isOpen_10 ⟨Nat.le_of_ble_eq_true rfl, Nat.le_of_ble_eq_true rfl⟩)) (fun r_2 hr_2 => ?_)
  rcases hr_2 with ⟨rfl, hlo_3, hhi_3⟩ | ⟨rfl, hno_3⟩
  · exact absurd (Int64.le_trans hlo_3 hhi_3) (by decide)
  · exact W.zret (v := 0) hx hb hr rfl (fun t ht hW => ⟨0, rfl, rfl, ht⟩) (fun _ h => by cases h) dX12_isOpen_13
def dq_X12_isSector : List Cond := [.methodLink RX12 396 yX12_isPicture, .instanceMethod yX12_isPicture, .selects RX12 yX12_isPicture yX12_isPicture, .initialized RX12]
def wq_X12_isSector : List Cond := .code yX12_isSector cX12_isSector 3 (some .boolean) :: (dq_X12_isSector ++ (wq_X12_isPicture))
theorem mq_X12_isSector_X12_isPicture : ∀ w ∈ wq_X12_isPicture, w ∈ wq_X12_isSector := fun w h => List.mem_cons_of_mem _ (List.mem_append_right _ (h))
theorem ga_X12_isSector : wq_X12_isSector.all goodWord = true := by decide +kernel
theorem gq_X12_isSector_X12_isPicture_396 : GoodIn wq_X12_isSector (wsV RX12 396 RX12 yX12_isPicture wq_X12_isPicture) := goodIn_app (goodIn_r _ [1, 2, 3, 4] (by decide +kernel) (by decide +kernel)) (goodIn_sub mq_X12_isSector_X12_isPicture ga_X12_isPicture)
theorem tdq_X12_isSector : ∀ w ∈ dq_X12_isSector, w ∈ lw_tbl := fun w h => (goodIn_r (big := lw_tbl) dq_X12_isSector [2822, 2824, 120, 296] (by decide +kernel) (by decide +kernel) w h).1
theorem tq_X12_isSector : ∀ w ∈ wq_X12_isSector, w ∈ lw_tbl := fun w h => (List.mem_cons.mp h).elim (fun e => by rw [e]; exact List.mem_of_getElem? (i := 2833) (by decide +kernel)) (fun h => (List.mem_append.mp h).elim (fun h => tdq_X12_isSector w h) (fun h => tq_X12_isPicture w h))
set_option maxHeartbeats 40000000 in
set_option maxRecDepth 100000 in
theorem c_X12_isSector (l : Launch) (dC : Nat → ClassId) (dI : Nat → Nat → Nat) (cI cB cZ cJ cC cP cV cT cO : ClassId) (sz : Nat) (h0 : Nat) (g : Nat → Nat)  (p0 : Int32) (p1 : Int32) : Met l yX12_isSector wq_X12_isSector ({ frames := 2, cells := 0, slots := 0, locals := 46 }) (va_Pc [.ref h0, .int p0, .int p1] (fun U => U.heap.size = sz ∧ va_P (dC, dI) vwCl [(h0, .inr (12, (fsM g)))] U.heap ∧ va_K (dC, dI) vwCl [(cI, .int), (cB, .byte), (cZ, .boolean), (cJ, .long), (cC, .char), (cP, .object "DiskEvidence$Picture"), (cV, .object "DiskEvidence$Volume"), (cT, .object "DiskEvidence$Tree"), (cO, .object "DiskEvidence$Opening")] U ∧ va_D (fun _ => True) [(h0, .inr (12, (fsM g)))])) (vp_Si (fun r : Int32 => r = 0)) 0 0 (fun _ => False) := by
  refine Met.ofW (cc := cX12_isSector) (maxL := 3) (ret := (some .boolean)) (by decide) rfl ?_
  intro p e s m args below meth c s₁ B hml hv
  obtain ⟨rfl, hsz, hP, hK, hD0⟩ := hv
  have hx := B.exec
  have hb := B.bytes
  have hr := B.returns
  have hts := atoms_spec (ws := wq_X12_isSector) B.pre
  have hown : s.vm.findClass RX12 = some m.cls := findClass_of_methodNamed B.named
  have hlocks := B.notSynchronized
  subst hsz
  have hD := hD0.self (sz := s.heap.size)
  generalize hAe : va_A [(h0, .inr (12, (fsM g)))] s.heap.size = A at hD ⊢
  have hA : ∀ q : Nat, s.heap.size ≤ q → A q := fun q h => by rw [← hAe]; exact Or.inr h
  have hS : va_S A s.heap s.heap [] := va_S.rf
  have hl := lv_entry ([.ref h0, .int p0, .int p1]) (n := 3) (Nat.le_of_ble_eq_true rfl)
  rw [lg_entry_eq]
  generalize (lg_sl ([.ref h0, .int p0, .int p1]) ++ List.replicate (3 - (lg_sl ([.ref h0, .int p0, .int p1])).length) Slot.unset).toArray = ls at hl ⊢
  have hl : lv_has ls 3 [(0, .ref h0), (1, .int p0), (2, .int p1)] := hl
  refine lv_aload_n hx hb dX12_isSector_0 rfl (lv_at hl 0 rfl) ?_
  refine lv_iload_n hx hb dX12_isSector_1 rfl (lv_at hl 1 rfl) ?_
  have hPc := hP.sub (ws' := [(h0, .inr (12, (fsM g)))]) [0] rfl
  have hDc := hD.sub (ws' := [(h0, .inr (12, (fsM g)))]) [0] (by decide) rfl
  have hKc := hK
  refine vp_callSi (va_Run.run (va_runV (As := [.int p0]) (rest := []) ⟨hx, hb, hml, hown, hts⟩ (c_X12_isPicture l dC dI cI cB cZ cJ cC cP cV cT cO s.heap.size h0 g p0) (cwV 1 hts gq_X12_isSector_X12_isPicture_396 rfl rfl rfl (by decide +kernel) ⟨Nat.le_of_ble_eq_true rfl, Nat.le_of_ble_eq_true rfl⟩) ⟨fun a U g mk q => by obtain ⟨q0, q1, qP, qK, qD⟩ := q; exact ⟨q0, q1, qP, va_K.moved (u := U) (U := U.calling g mk a) (Vm.Alike.refl U.vm) qK, qD⟩, va_recv hKc hPc (ci := 12) (q0 := 0) rfl rfl, fun U hU hW => ⟨rfl, by rw [hU], by rw [hU]; exact hPc, va_K.moved hW.alike hKc, hDc.weaken (fun _ _ _ _ => trivial)⟩⟩ rfl rfl hl.1 rfl (lv_room (Nat.le_of_ble_eq_true rfl)) dX12_isSector_2 ⟨Nat.le_of_ble_eq_true rfl, Nat.le_of_ble_eq_true rfl⟩)) (fun r_1 hr_1 => ?_)
  obtain rfl : r_1 = 0 := hr_1
  refine lv_if_eq (tgt := 30) hx hb dX12_isSector_5 (by decide) (fun _ => ?_) (fun c_2 => absurd (by decide) c_2)
  refine lv_iconst (v := 0) hx hb dX12_isSector_30 (by decide) ?_
  exact W.zret (v := 0) hx hb hr rfl (fun t ht hW => ⟨0, rfl, rfl, ht⟩) (fun _ h => by cases h) dX12_isSector_31
def dq_X12_isByte : List Cond := [.methodLink RX12 396 yX12_isPicture, .instanceMethod yX12_isPicture, .selects RX12 yX12_isPicture yX12_isPicture, .initialized RX12]
def wq_X12_isByte : List Cond := .code yX12_isByte cX12_isByte 3 (some .boolean) :: (dq_X12_isByte ++ (wq_X12_isPicture))
theorem mq_X12_isByte_X12_isPicture : ∀ w ∈ wq_X12_isPicture, w ∈ wq_X12_isByte := fun w h => List.mem_cons_of_mem _ (List.mem_append_right _ (h))
theorem ga_X12_isByte : wq_X12_isByte.all goodWord = true := by decide +kernel
theorem gq_X12_isByte_X12_isPicture_396 : GoodIn wq_X12_isByte (wsV RX12 396 RX12 yX12_isPicture wq_X12_isPicture) := goodIn_app (goodIn_r _ [1, 2, 3, 4] (by decide +kernel) (by decide +kernel)) (goodIn_sub mq_X12_isByte_X12_isPicture ga_X12_isPicture)
theorem tdq_X12_isByte : ∀ w ∈ dq_X12_isByte, w ∈ lw_tbl := fun w h => (goodIn_r (big := lw_tbl) dq_X12_isByte [2822, 2824, 120, 296] (by decide +kernel) (by decide +kernel) w h).1
theorem tq_X12_isByte : ∀ w ∈ wq_X12_isByte, w ∈ lw_tbl := fun w h => (List.mem_cons.mp h).elim (fun e => by rw [e]; exact List.mem_of_getElem? (i := 2845) (by decide +kernel)) (fun h => (List.mem_append.mp h).elim (fun h => tdq_X12_isByte w h) (fun h => tq_X12_isPicture w h))
set_option maxHeartbeats 40000000 in
set_option maxRecDepth 100000 in
theorem c_X12_isByte (l : Launch) (dC : Nat → ClassId) (dI : Nat → Nat → Nat) (cI cB cZ cJ cC cP cV cT cO : ClassId) (sz : Nat) (h0 : Nat) (g : Nat → Nat)  (p0 : Int32) (p1 : Int32) : Met l yX12_isByte wq_X12_isByte ({ frames := 2, cells := 0, slots := 0, locals := 46 }) (va_Pc [.ref h0, .int p0, .int p1] (fun U => U.heap.size = sz ∧ va_P (dC, dI) vwCl [(h0, .inr (12, (fsM g)))] U.heap ∧ va_K (dC, dI) vwCl [(cI, .int), (cB, .byte), (cZ, .boolean), (cJ, .long), (cC, .char), (cP, .object "DiskEvidence$Picture"), (cV, .object "DiskEvidence$Volume"), (cT, .object "DiskEvidence$Tree"), (cO, .object "DiskEvidence$Opening")] U ∧ va_D (fun _ => True) [(h0, .inr (12, (fsM g)))])) (vp_Si (fun r : Int32 => r = 0)) 0 0 (fun _ => False) := by
  refine Met.ofW (cc := cX12_isByte) (maxL := 3) (ret := (some .boolean)) (by decide) rfl ?_
  intro p e s m args below meth c s₁ B hml hv
  obtain ⟨rfl, hsz, hP, hK, hD0⟩ := hv
  have hx := B.exec
  have hb := B.bytes
  have hr := B.returns
  have hts := atoms_spec (ws := wq_X12_isByte) B.pre
  have hown : s.vm.findClass RX12 = some m.cls := findClass_of_methodNamed B.named
  have hlocks := B.notSynchronized
  subst hsz
  have hD := hD0.self (sz := s.heap.size)
  generalize hAe : va_A [(h0, .inr (12, (fsM g)))] s.heap.size = A at hD ⊢
  have hA : ∀ q : Nat, s.heap.size ≤ q → A q := fun q h => by rw [← hAe]; exact Or.inr h
  have hS : va_S A s.heap s.heap [] := va_S.rf
  have hl := lv_entry ([.ref h0, .int p0, .int p1]) (n := 3) (Nat.le_of_ble_eq_true rfl)
  rw [lg_entry_eq]
  generalize (lg_sl ([.ref h0, .int p0, .int p1]) ++ List.replicate (3 - (lg_sl ([.ref h0, .int p0, .int p1])).length) Slot.unset).toArray = ls at hl ⊢
  have hl : lv_has ls 3 [(0, .ref h0), (1, .int p0), (2, .int p1)] := hl
  refine lv_aload_n hx hb dX12_isByte_0 rfl (lv_at hl 0 rfl) ?_
  refine lv_iload_n hx hb dX12_isByte_1 rfl (lv_at hl 1 rfl) ?_
  have hPc := hP.sub (ws' := [(h0, .inr (12, (fsM g)))]) [0] rfl
  have hDc := hD.sub (ws' := [(h0, .inr (12, (fsM g)))]) [0] (by decide) rfl
  have hKc := hK
  refine vp_callSi (va_Run.run (va_runV (As := [.int p0]) (rest := []) ⟨hx, hb, hml, hown, hts⟩ (c_X12_isPicture l dC dI cI cB cZ cJ cC cP cV cT cO s.heap.size h0 g p0) (cwV 1 hts gq_X12_isByte_X12_isPicture_396 rfl rfl rfl (by decide +kernel) ⟨Nat.le_of_ble_eq_true rfl, Nat.le_of_ble_eq_true rfl⟩) ⟨fun a U g mk q => by obtain ⟨q0, q1, qP, qK, qD⟩ := q; exact ⟨q0, q1, qP, va_K.moved (u := U) (U := U.calling g mk a) (Vm.Alike.refl U.vm) qK, qD⟩, va_recv hKc hPc (ci := 12) (q0 := 0) rfl rfl, fun U hU hW => ⟨rfl, by rw [hU], by rw [hU]; exact hPc, va_K.moved hW.alike hKc, hDc.weaken (fun _ _ _ _ => trivial)⟩⟩ rfl rfl hl.1 rfl (lv_room (Nat.le_of_ble_eq_true rfl)) dX12_isByte_2 ⟨Nat.le_of_ble_eq_true rfl, Nat.le_of_ble_eq_true rfl⟩)) (fun r_1 hr_1 => ?_)
  obtain rfl : r_1 = 0 := hr_1
  refine lv_if_eq (tgt := 33) hx hb dX12_isByte_5 (by decide) (fun _ => ?_) (fun c_2 => absurd (by decide) c_2)
  refine lv_iconst (v := 0) hx hb dX12_isByte_33 (by decide) ?_
  exact W.zret (v := 0) hx hb hr rfl (fun t ht hW => ⟨0, rfl, rfl, ht⟩) (fun _ h => by cases h) dX12_isByte_34
def dq_X12_isFile : List Cond := [.methodLink RX12 797 yX12_isTree, .instanceMethod yX12_isTree, .selects RX12 yX12_isTree yX12_isTree, .initialized RX12]
def wq_X12_isFile : List Cond := .code yX12_isFile cX12_isFile 3 (some .boolean) :: (dq_X12_isFile ++ (wq_X12_isTree))
theorem mq_X12_isFile_X12_isTree : ∀ w ∈ wq_X12_isTree, w ∈ wq_X12_isFile := fun w h => List.mem_cons_of_mem _ (List.mem_append_right _ (h))
theorem ga_X12_isFile : wq_X12_isFile.all goodWord = true := by decide +kernel
theorem gq_X12_isFile_X12_isTree_797 : GoodIn wq_X12_isFile (wsV RX12 797 RX12 yX12_isTree wq_X12_isTree) := goodIn_app (goodIn_r _ [1, 2, 3, 4] (by decide +kernel) (by decide +kernel)) (goodIn_sub mq_X12_isFile_X12_isTree ga_X12_isTree)
theorem tdq_X12_isFile : ∀ w ∈ dq_X12_isFile, w ∈ lw_tbl := fun w h => (goodIn_r (big := lw_tbl) dq_X12_isFile [3402, 3404, 239, 296] (by decide +kernel) (by decide +kernel) w h).1
theorem tq_X12_isFile : ∀ w ∈ wq_X12_isFile, w ∈ lw_tbl := fun w h => (List.mem_cons.mp h).elim (fun e => by rw [e]; exact List.mem_of_getElem? (i := 3401) (by decide +kernel)) (fun h => (List.mem_append.mp h).elim (fun h => tdq_X12_isFile w h) (fun h => tq_X12_isTree w h))
set_option maxHeartbeats 40000000 in
set_option maxRecDepth 100000 in
theorem c_X12_isFile (l : Launch) (dC : Nat → ClassId) (dI : Nat → Nat → Nat) (cI cB cZ cJ cC cP cV cT cO : ClassId) (sz : Nat) (h0 : Nat) (g : Nat → Nat)  (p0 : Int32) (p1 : Int32) : Met l yX12_isFile wq_X12_isFile ({ frames := 2, cells := 0, slots := 0, locals := 46 }) (va_Pc [.ref h0, .int p0, .int p1] (fun U => U.heap.size = sz ∧ va_P (dC, dI) vwCl [(h0, .inr (12, (fsM g)))] U.heap ∧ va_K (dC, dI) vwCl [(cI, .int), (cB, .byte), (cZ, .boolean), (cJ, .long), (cC, .char), (cP, .object "DiskEvidence$Picture"), (cV, .object "DiskEvidence$Volume"), (cT, .object "DiskEvidence$Tree"), (cO, .object "DiskEvidence$Opening")] U ∧ va_D (fun _ => True) [(h0, .inr (12, (fsM g)))])) (vp_Si (fun r : Int32 => r = 0)) 0 0 (fun _ => False) := by
  refine Met.ofW (cc := cX12_isFile) (maxL := 3) (ret := (some .boolean)) (by decide) rfl ?_
  intro p e s m args below meth c s₁ B hml hv
  obtain ⟨rfl, hsz, hP, hK, hD0⟩ := hv
  have hx := B.exec
  have hb := B.bytes
  have hr := B.returns
  have hts := atoms_spec (ws := wq_X12_isFile) B.pre
  have hown : s.vm.findClass RX12 = some m.cls := findClass_of_methodNamed B.named
  have hlocks := B.notSynchronized
  subst hsz
  have hD := hD0.self (sz := s.heap.size)
  generalize hAe : va_A [(h0, .inr (12, (fsM g)))] s.heap.size = A at hD ⊢
  have hA : ∀ q : Nat, s.heap.size ≤ q → A q := fun q h => by rw [← hAe]; exact Or.inr h
  have hS : va_S A s.heap s.heap [] := va_S.rf
  have hl := lv_entry ([.ref h0, .int p0, .int p1]) (n := 3) (Nat.le_of_ble_eq_true rfl)
  rw [lg_entry_eq]
  generalize (lg_sl ([.ref h0, .int p0, .int p1]) ++ List.replicate (3 - (lg_sl ([.ref h0, .int p0, .int p1])).length) Slot.unset).toArray = ls at hl ⊢
  have hl : lv_has ls 3 [(0, .ref h0), (1, .int p0), (2, .int p1)] := hl
  refine lv_aload_n hx hb dX12_isFile_0 rfl (lv_at hl 0 rfl) ?_
  refine lv_iload_n hx hb dX12_isFile_1 rfl (lv_at hl 1 rfl) ?_
  have hPc := hP.sub (ws' := [(h0, .inr (12, (fsM g)))]) [0] rfl
  have hDc := hD.sub (ws' := [(h0, .inr (12, (fsM g)))]) [0] (by decide) rfl
  have hKc := hK
  refine vp_callSi (va_Run.run (va_runV (As := [.int p0]) (rest := []) ⟨hx, hb, hml, hown, hts⟩ (c_X12_isTree l dC dI cI cB cZ cJ cC cP cV cT cO s.heap.size h0 g p0) (cwV 1 hts gq_X12_isFile_X12_isTree_797 rfl rfl rfl (by decide +kernel) ⟨Nat.le_of_ble_eq_true rfl, Nat.le_of_ble_eq_true rfl⟩) ⟨fun a U g mk q => by obtain ⟨q0, q1, qP, qK, qD⟩ := q; exact ⟨q0, q1, qP, va_K.moved (u := U) (U := U.calling g mk a) (Vm.Alike.refl U.vm) qK, qD⟩, va_recv hKc hPc (ci := 12) (q0 := 0) rfl rfl, fun U hU hW => ⟨rfl, by rw [hU], by rw [hU]; exact hPc, va_K.moved hW.alike hKc, hDc.weaken (fun _ _ _ _ => trivial)⟩⟩ rfl rfl hl.1 rfl (lv_room (Nat.le_of_ble_eq_true rfl)) dX12_isFile_2 ⟨Nat.le_of_ble_eq_true rfl, Nat.le_of_ble_eq_true rfl⟩)) (fun r_1 hr_1 => ?_)
  obtain rfl : r_1 = 0 := hr_1
  refine lv_if_eq (tgt := 29) hx hb dX12_isFile_5 (by decide) (fun _ => ?_) (fun c_2 => absurd (by decide) c_2)
  refine lv_iconst (v := 0) hx hb dX12_isFile_29 (by decide) ?_
  exact W.zret (v := 0) hx hb hr rfl (fun t ht hW => ⟨0, rfl, rfl, ht⟩) (fun _ h => by cases h) dX12_isFile_30
def dq_X12_isPoint : List Cond := [.methodLink RX12 993 yX12_isOpen, .instanceMethod yX12_isOpen, .selects RX12 yX12_isOpen yX12_isOpen, .initialized RX12]
def wq_X12_isPoint : List Cond := .code yX12_isPoint cX12_isPoint 3 (some .boolean) :: (dq_X12_isPoint ++ (wq_X12_isOpen))
theorem mq_X12_isPoint_X12_isOpen : ∀ w ∈ wq_X12_isOpen, w ∈ wq_X12_isPoint := fun w h => List.mem_cons_of_mem _ (List.mem_append_right _ (h))
theorem ga_X12_isPoint : wq_X12_isPoint.all goodWord = true := by decide +kernel
theorem gq_X12_isPoint_X12_isOpen_993 : GoodIn wq_X12_isPoint (wsV RX12 993 RX12 yX12_isOpen wq_X12_isOpen) := goodIn_app (goodIn_r _ [1, 2, 3, 4] (by decide +kernel) (by decide +kernel)) (goodIn_sub mq_X12_isPoint_X12_isOpen ga_X12_isOpen)
theorem tdq_X12_isPoint : ∀ w ∈ dq_X12_isPoint, w ∈ lw_tbl := fun w h => (goodIn_r (big := lw_tbl) dq_X12_isPoint [3450, 3452, 249, 296] (by decide +kernel) (by decide +kernel) w h).1
theorem tq_X12_isPoint : ∀ w ∈ wq_X12_isPoint, w ∈ lw_tbl := fun w h => (List.mem_cons.mp h).elim (fun e => by rw [e]; exact List.mem_of_getElem? (i := 3449) (by decide +kernel)) (fun h => (List.mem_append.mp h).elim (fun h => tdq_X12_isPoint w h) (fun h => tq_X12_isOpen w h))
set_option maxHeartbeats 40000000 in
set_option maxRecDepth 100000 in
theorem c_X12_isPoint (l : Launch) (dC : Nat → ClassId) (dI : Nat → Nat → Nat) (cI cB cZ cJ cC cP cV cT cO : ClassId) (sz : Nat) (h0 : Nat) (g : Nat → Nat)  (p0 : Int32) (p1 : Int32) : Met l yX12_isPoint wq_X12_isPoint ({ frames := 2, cells := 0, slots := 0, locals := 46 }) (va_Pc [.ref h0, .int p0, .int p1] (fun U => U.heap.size = sz ∧ va_P (dC, dI) vwCl [(h0, .inr (12, (fsM g)))] U.heap ∧ va_K (dC, dI) vwCl [(cI, .int), (cB, .byte), (cZ, .boolean), (cJ, .long), (cC, .char), (cP, .object "DiskEvidence$Picture"), (cV, .object "DiskEvidence$Volume"), (cT, .object "DiskEvidence$Tree"), (cO, .object "DiskEvidence$Opening")] U ∧ va_D (fun _ => True) [(h0, .inr (12, (fsM g)))])) (vp_Si (fun r : Int32 => r = 0)) 0 0 (fun _ => False) := by
  refine Met.ofW (cc := cX12_isPoint) (maxL := 3) (ret := (some .boolean)) (by decide) rfl ?_
  intro p e s m args below meth c s₁ B hml hv
  obtain ⟨rfl, hsz, hP, hK, hD0⟩ := hv
  have hx := B.exec
  have hb := B.bytes
  have hr := B.returns
  have hts := atoms_spec (ws := wq_X12_isPoint) B.pre
  have hown : s.vm.findClass RX12 = some m.cls := findClass_of_methodNamed B.named
  have hlocks := B.notSynchronized
  subst hsz
  have hD := hD0.self (sz := s.heap.size)
  generalize hAe : va_A [(h0, .inr (12, (fsM g)))] s.heap.size = A at hD ⊢
  have hA : ∀ q : Nat, s.heap.size ≤ q → A q := fun q h => by rw [← hAe]; exact Or.inr h
  have hS : va_S A s.heap s.heap [] := va_S.rf
  have hl := lv_entry ([.ref h0, .int p0, .int p1]) (n := 3) (Nat.le_of_ble_eq_true rfl)
  rw [lg_entry_eq]
  generalize (lg_sl ([.ref h0, .int p0, .int p1]) ++ List.replicate (3 - (lg_sl ([.ref h0, .int p0, .int p1])).length) Slot.unset).toArray = ls at hl ⊢
  have hl : lv_has ls 3 [(0, .ref h0), (1, .int p0), (2, .int p1)] := hl
  refine lv_aload_n hx hb dX12_isPoint_0 rfl (lv_at hl 0 rfl) ?_
  refine lv_iload_n hx hb dX12_isPoint_1 rfl (lv_at hl 1 rfl) ?_
  have hPc := hP.sub (ws' := [(h0, .inr (12, (fsM g)))]) [0] rfl
  have hDc := hD.sub (ws' := [(h0, .inr (12, (fsM g)))]) [0] (by decide) rfl
  have hKc := hK
  refine vp_callSi (va_Run.run (va_runV (As := [.int p0]) (rest := []) ⟨hx, hb, hml, hown, hts⟩ (c_X12_isOpen l dC dI cI cB cZ cJ cC cP cV cT cO s.heap.size h0 g p0) (cwV 1 hts gq_X12_isPoint_X12_isOpen_993 rfl rfl rfl (by decide +kernel) ⟨Nat.le_of_ble_eq_true rfl, Nat.le_of_ble_eq_true rfl⟩) ⟨fun a U g mk q => by obtain ⟨q0, q1, qP, qK, qD⟩ := q; exact ⟨q0, q1, qP, va_K.moved (u := U) (U := U.calling g mk a) (Vm.Alike.refl U.vm) qK, qD⟩, va_recv hKc hPc (ci := 12) (q0 := 0) rfl rfl, fun U hU hW => ⟨rfl, by rw [hU], by rw [hU]; exact hPc, va_K.moved hW.alike hKc, hDc.weaken (fun _ _ _ _ => trivial)⟩⟩ rfl rfl hl.1 rfl (lv_room (Nat.le_of_ble_eq_true rfl)) dX12_isPoint_2 ⟨Nat.le_of_ble_eq_true rfl, Nat.le_of_ble_eq_true rfl⟩)) (fun r_1 hr_1 => ?_)
  obtain rfl : r_1 = 0 := hr_1
  refine lv_if_eq (tgt := 30) hx hb dX12_isPoint_5 (by decide) (fun _ => ?_) (fun c_2 => absurd (by decide) c_2)
  refine lv_iconst (v := 0) hx hb dX12_isPoint_30 (by decide) ?_
  exact W.zret (v := 0) hx hb hr rfl (fun t ht hW => ⟨0, rfl, rfl, ht⟩) (fun _ h => by cases h) dX12_isPoint_31
def dq_X12_isOwnFile : List Cond := [.methodLink RX12 980 yX12_isFile, .instanceMethod yX12_isFile, .selects RX12 yX12_isFile yX12_isFile, .initialized RX12]
def wq_X12_isOwnFile : List Cond := .code yX12_isOwnFile cX12_isOwnFile 3 (some .boolean) :: (dq_X12_isOwnFile ++ (wq_X12_isFile))
theorem mq_X12_isOwnFile_X12_isFile : ∀ w ∈ wq_X12_isFile, w ∈ wq_X12_isOwnFile := fun w h => List.mem_cons_of_mem _ (List.mem_append_right _ (h))
theorem ga_X12_isOwnFile : wq_X12_isOwnFile.all goodWord = true := by decide +kernel
theorem gq_X12_isOwnFile_X12_isFile_980 : GoodIn wq_X12_isOwnFile (wsV RX12 980 RX12 yX12_isFile wq_X12_isFile) := goodIn_app (goodIn_r _ [1, 2, 3, 4] (by decide +kernel) (by decide +kernel)) (goodIn_sub mq_X12_isOwnFile_X12_isFile ga_X12_isFile)
theorem tdq_X12_isOwnFile : ∀ w ∈ dq_X12_isOwnFile, w ∈ lw_tbl := fun w h => (goodIn_r (big := lw_tbl) dq_X12_isOwnFile [3398, 3400, 238, 296] (by decide +kernel) (by decide +kernel) w h).1
theorem tq_X12_isOwnFile : ∀ w ∈ wq_X12_isOwnFile, w ∈ lw_tbl := fun w h => (List.mem_cons.mp h).elim (fun e => by rw [e]; exact List.mem_of_getElem? (i := 3683) (by decide +kernel)) (fun h => (List.mem_append.mp h).elim (fun h => tdq_X12_isOwnFile w h) (fun h => tq_X12_isFile w h))
set_option maxHeartbeats 40000000 in
set_option maxRecDepth 100000 in
theorem c_X12_isOwnFile (l : Launch) (dC : Nat → ClassId) (dI : Nat → Nat → Nat) (cI cB cZ cJ cC cP cV cT cO : ClassId) (sz : Nat) (h0 : Nat) (g : Nat → Nat)  (p0 : Int32) (p1 : Int32) : Met l yX12_isOwnFile wq_X12_isOwnFile ({ frames := 3, cells := 0, slots := 0, locals := 68 }) (va_Pc [.ref h0, .int p0, .int p1] (fun U => U.heap.size = sz ∧ va_P (dC, dI) vwCl [(h0, .inr (12, (fsM g)))] U.heap ∧ va_K (dC, dI) vwCl [(cI, .int), (cB, .byte), (cZ, .boolean), (cJ, .long), (cC, .char), (cP, .object "DiskEvidence$Picture"), (cV, .object "DiskEvidence$Volume"), (cT, .object "DiskEvidence$Tree"), (cO, .object "DiskEvidence$Opening")] U ∧ va_D (fun _ => True) [(h0, .inr (12, (fsM g)))])) (vp_Si (fun r : Int32 => r = 0)) 0 0 (fun _ => False) := by
  refine Met.ofW (cc := cX12_isOwnFile) (maxL := 3) (ret := (some .boolean)) (by decide) rfl ?_
  intro p e s m args below meth c s₁ B hml hv
  obtain ⟨rfl, hsz, hP, hK, hD0⟩ := hv
  have hx := B.exec
  have hb := B.bytes
  have hr := B.returns
  have hts := atoms_spec (ws := wq_X12_isOwnFile) B.pre
  have hown : s.vm.findClass RX12 = some m.cls := findClass_of_methodNamed B.named
  have hlocks := B.notSynchronized
  subst hsz
  have hD := hD0.self (sz := s.heap.size)
  generalize hAe : va_A [(h0, .inr (12, (fsM g)))] s.heap.size = A at hD ⊢
  have hA : ∀ q : Nat, s.heap.size ≤ q → A q := fun q h => by rw [← hAe]; exact Or.inr h
  have hS : va_S A s.heap s.heap [] := va_S.rf
  have hl := lv_entry ([.ref h0, .int p0, .int p1]) (n := 3) (Nat.le_of_ble_eq_true rfl)
  rw [lg_entry_eq]
  generalize (lg_sl ([.ref h0, .int p0, .int p1]) ++ List.replicate (3 - (lg_sl ([.ref h0, .int p0, .int p1])).length) Slot.unset).toArray = ls at hl ⊢
  have hl : lv_has ls 3 [(0, .ref h0), (1, .int p0), (2, .int p1)] := hl
  refine lv_aload_n hx hb dX12_isOwnFile_0 rfl (lv_at hl 0 rfl) ?_
  refine lv_iload_n hx hb dX12_isOwnFile_1 rfl (lv_at hl 1 rfl) ?_
  refine lv_iload_n hx hb dX12_isOwnFile_2 rfl (lv_at hl 2 rfl) ?_
  have hPc := hP.sub (ws' := [(h0, .inr (12, (fsM g)))]) [0] rfl
  have hDc := hD.sub (ws' := [(h0, .inr (12, (fsM g)))]) [0] (by decide) rfl
  have hKc := hK
  refine vp_callSi (va_Run.run (va_runV (As := [.int p0, .int p1]) (rest := []) ⟨hx, hb, hml, hown, hts⟩ (c_X12_isFile l dC dI cI cB cZ cJ cC cP cV cT cO s.heap.size h0 g p0 p1) (cwV 2 hts gq_X12_isOwnFile_X12_isFile_980 rfl rfl rfl (by decide +kernel) ⟨Nat.le_of_ble_eq_true rfl, Nat.le_of_ble_eq_true rfl⟩) ⟨fun a U g mk q => by obtain ⟨q0, q1, qP, qK, qD⟩ := q; exact ⟨q0, q1, qP, va_K.moved (u := U) (U := U.calling g mk a) (Vm.Alike.refl U.vm) qK, qD⟩, va_recv hKc hPc (ci := 12) (q0 := 0) rfl rfl, fun U hU hW => ⟨rfl, by rw [hU], by rw [hU]; exact hPc, va_K.moved hW.alike hKc, hDc.weaken (fun _ _ _ _ => trivial)⟩⟩ rfl rfl hl.1 rfl (lv_room (Nat.le_of_ble_eq_true rfl)) dX12_isOwnFile_3 ⟨Nat.le_of_ble_eq_true rfl, Nat.le_of_ble_eq_true rfl⟩)) (fun r_1 hr_1 => ?_)
  obtain rfl : r_1 = 0 := hr_1
  refine lv_if_eq (tgt := 29) hx hb dX12_isOwnFile_6 (by decide) (fun _ => ?_) (fun c_2 => absurd (by decide) c_2)
  refine lv_iconst (v := 0) hx hb dX12_isOwnFile_29 (by decide) ?_
  exact W.zret (v := 0) hx hb hr rfl (fun t ht hW => ⟨0, rfl, rfl, ht⟩) (fun _ h => by cases h) dX12_isOwnFile_30
def dq_X11_sectors : List Cond := [.methodLink RX11 103 yX11_pictureAt, .instanceMethod yX11_pictureAt, .selects RX11 yX11_pictureAt yX11_pictureAt, .initialized RX11]
def wq_X11_sectors : List Cond := .code yX11_sectors cX11_sectors 3 (some .int) :: (dq_X11_sectors ++ (wq_X11_pictureAt))
theorem mq_X11_sectors_X11_pictureAt : ∀ w ∈ wq_X11_pictureAt, w ∈ wq_X11_sectors := fun w h => List.mem_cons_of_mem _ (List.mem_append_right _ (h))
theorem ga_X11_sectors : wq_X11_sectors.all goodWord = true := by decide +kernel
theorem gq_X11_sectors_X11_pictureAt_103 : GoodIn wq_X11_sectors (wsV RX11 103 RX11 yX11_pictureAt wq_X11_pictureAt) := goodIn_app (goodIn_r _ [1, 2, 3, 4] (by decide +kernel) (by decide +kernel)) (goodIn_sub mq_X11_sectors_X11_pictureAt ga_X11_pictureAt)
theorem tdq_X11_sectors : ∀ w ∈ dq_X11_sectors, w ∈ lw_tbl := fun w h => (goodIn_r (big := lw_tbl) dq_X11_sectors [742, 744, 0, 290] (by decide +kernel) (by decide +kernel) w h).1
theorem tq_X11_sectors : ∀ w ∈ wq_X11_sectors, w ∈ lw_tbl := fun w h => (List.mem_cons.mp h).elim (fun e => by rw [e]; exact List.mem_of_getElem? (i := 741) (by decide +kernel)) (fun h => (List.mem_append.mp h).elim (fun h => tdq_X11_sectors w h) (fun h => tq_X11_pictureAt w h))
set_option maxHeartbeats 40000000 in
set_option maxRecDepth 100000 in
theorem c_X11_sectors (l : Launch) (dC : Nat → ClassId) (dI : Nat → Nat → Nat) (cI cB cZ cJ cC cP cV cT cO : ClassId) (sz : Nat) (h0 : Nat) (g : Nat → Nat)  (p0 : Int32) : Met l yX11_sectors wq_X11_sectors ({ frames := 1, cells := 0, slots := 0, locals := 21 }) (va_Pc [.ref h0, .int p0] (fun U => U.heap.size = sz ∧ va_P (dC, dI) vwCl [(h0, .inr (11, (fsX g)))] U.heap ∧ va_K (dC, dI) vwCl [(cI, .int), (cB, .byte), (cZ, .boolean), (cJ, .long), (cC, .char), (cP, .object "DiskEvidence$Picture"), (cV, .object "DiskEvidence$Volume"), (cT, .object "DiskEvidence$Tree"), (cO, .object "DiskEvidence$Opening")] U ∧ va_D (fun _ => True) [(h0, .inr (11, (fsX g)))])) (vp_Si (fun r : Int32 => r = (-2))) 0 0 (fun _ => False) := by
  refine Met.ofW (cc := cX11_sectors) (maxL := 3) (ret := (some .int)) (by decide) rfl ?_
  intro p e s m args below meth c s₁ B hml hv
  obtain ⟨rfl, hsz, hP, hK, hD0⟩ := hv
  have hx := B.exec
  have hb := B.bytes
  have hr := B.returns
  have hts := atoms_spec (ws := wq_X11_sectors) B.pre
  have hown : s.vm.findClass RX11 = some m.cls := findClass_of_methodNamed B.named
  have hlocks := B.notSynchronized
  subst hsz
  have hD := hD0.self (sz := s.heap.size)
  generalize hAe : va_A [(h0, .inr (11, (fsX g)))] s.heap.size = A at hD ⊢
  have hA : ∀ q : Nat, s.heap.size ≤ q → A q := fun q h => by rw [← hAe]; exact Or.inr h
  have hS : va_S A s.heap s.heap [] := va_S.rf
  have hl := lv_entry ([.ref h0, .int p0]) (n := 3) (Nat.le_of_ble_eq_true rfl)
  rw [lg_entry_eq]
  generalize (lg_sl ([.ref h0, .int p0]) ++ List.replicate (3 - (lg_sl ([.ref h0, .int p0])).length) Slot.unset).toArray = ls at hl ⊢
  have hl : lv_has ls 3 [(0, .ref h0), (1, .int p0)] := hl
  refine lv_aload_n hx hb dX11_sectors_0 rfl (lv_at hl 0 rfl) ?_
  refine lv_iload_n hx hb dX11_sectors_1 rfl (lv_at hl 1 rfl) ?_
  have hPc := hP.sub (ws' := [(h0, .inr (11, (fsX g)))]) [0] rfl
  have hDc := hD.sub (ws' := [(h0, .inr (11, (fsX g)))]) [0] (by decide) rfl
  have hKc := hK
  refine va_csq (va_Run.run (va_runV (As := [.int p0]) (rest := []) ⟨hx, hb, hml, hown, hts⟩ (c_X11_pictureAt l dC dI cI cB cZ cJ cC cP cV cT cO s.heap.size h0 g p0) (cwV 1 hts gq_X11_sectors_X11_pictureAt_103 rfl rfl rfl (by decide +kernel) ⟨Nat.le_of_ble_eq_true rfl, Nat.le_of_ble_eq_true rfl⟩) ⟨fun a U g mk q => by obtain ⟨q0, q1, qP, qK, qD⟩ := q; exact ⟨q0, q1, qP, va_K.moved (u := U) (U := U.calling g mk a) (Vm.Alike.refl U.vm) qK, qD⟩, va_recv hKc hPc (ci := 11) (q0 := 0) rfl rfl, fun U hU hW => ⟨rfl, by rw [hU], by rw [hU]; exact hPc, va_K.moved hW.alike hKc, hDc.weaken (fun _ _ _ _ => trivial)⟩⟩ rfl rfl hl.1 rfl (lv_room (Nat.le_of_ble_eq_true rfl)) dX11_sectors_2 ⟨Nat.le_of_ble_eq_true rfl, Nat.le_of_ble_eq_true rfl⟩)) (fun r_1 hr_1 => ?_)
  obtain rfl : r_1 = none := hr_1
  refine W.eq (g2 := F0 m 5 ls ([.null])) rfl ?_
  refine lv_astore_nN (lv' := [(2, .null), (0, .ref h0), (1, .int p0)]) hx hb dX11_sectors_5 rfl hl (by decide) rfl (fun ls hl => ?_)
  refine lv_aload_nN hx hb dX11_sectors_6 rfl (lv_at hl 0 rfl) ?_
  refine lv_ifnonnullN hx hb dX11_sectors_7 ?_
  refine lv_bipush (v := (-2)) hx hb dX11_sectors_10 (by decide) ?_
  refine lv_goto (tgt := 19) hx hb dX11_sectors_12 (by decide) ?_
  exact W.iret (v := (-2)) hx hb hr (fun t ht hW => ⟨(-2), rfl, rfl, ht⟩) (fun _ h => by cases h) dX11_sectors_19
def dq_X12_sectors : List Cond := [.methodLink RX12 396 yX12_isPicture, .instanceMethod yX12_isPicture, .selects RX12 yX12_isPicture yX12_isPicture, .initialized RX12]
def wq_X12_sectors : List Cond := .code yX12_sectors cX12_sectors 2 (some .int) :: (dq_X12_sectors ++ (wq_X12_isPicture))
theorem mq_X12_sectors_X12_isPicture : ∀ w ∈ wq_X12_isPicture, w ∈ wq_X12_sectors := fun w h => List.mem_cons_of_mem _ (List.mem_append_right _ (h))
theorem ga_X12_sectors : wq_X12_sectors.all goodWord = true := by decide +kernel
theorem gq_X12_sectors_X12_isPicture_396 : GoodIn wq_X12_sectors (wsV RX12 396 RX12 yX12_isPicture wq_X12_isPicture) := goodIn_app (goodIn_r _ [1, 2, 3, 4] (by decide +kernel) (by decide +kernel)) (goodIn_sub mq_X12_sectors_X12_isPicture ga_X12_isPicture)
theorem tdq_X12_sectors : ∀ w ∈ dq_X12_sectors, w ∈ lw_tbl := fun w h => (goodIn_r (big := lw_tbl) dq_X12_sectors [2822, 2824, 120, 296] (by decide +kernel) (by decide +kernel) w h).1
theorem tq_X12_sectors : ∀ w ∈ wq_X12_sectors, w ∈ lw_tbl := fun w h => (List.mem_cons.mp h).elim (fun e => by rw [e]; exact List.mem_of_getElem? (i := 2821) (by decide +kernel)) (fun h => (List.mem_append.mp h).elim (fun h => tdq_X12_sectors w h) (fun h => tq_X12_isPicture w h))
set_option maxHeartbeats 40000000 in
set_option maxRecDepth 100000 in
theorem c_X12_sectors (l : Launch) (dC : Nat → ClassId) (dI : Nat → Nat → Nat) (cI cB cZ cJ cC cP cV cT cO : ClassId) (sz : Nat) (h0 : Nat) (g : Nat → Nat)  (p0 : Int32) : Met l yX12_sectors wq_X12_sectors ({ frames := 2, cells := 0, slots := 0, locals := 46 }) (va_Pc [.ref h0, .int p0] (fun U => U.heap.size = sz ∧ va_P (dC, dI) vwCl [(h0, .inr (12, (fsM g)))] U.heap ∧ va_K (dC, dI) vwCl [(cI, .int), (cB, .byte), (cZ, .boolean), (cJ, .long), (cC, .char), (cP, .object "DiskEvidence$Picture"), (cV, .object "DiskEvidence$Volume"), (cT, .object "DiskEvidence$Tree"), (cO, .object "DiskEvidence$Opening")] U ∧ va_D (fun _ => True) [(h0, .inr (12, (fsM g)))])) (vp_Si (fun r : Int32 => r = (-2))) 0 0 (fun _ => False) := by
  refine Met.ofW (cc := cX12_sectors) (maxL := 2) (ret := (some .int)) (by decide) rfl ?_
  intro p e s m args below meth c s₁ B hml hv
  obtain ⟨rfl, hsz, hP, hK, hD0⟩ := hv
  have hx := B.exec
  have hb := B.bytes
  have hr := B.returns
  have hts := atoms_spec (ws := wq_X12_sectors) B.pre
  have hown : s.vm.findClass RX12 = some m.cls := findClass_of_methodNamed B.named
  have hlocks := B.notSynchronized
  subst hsz
  have hD := hD0.self (sz := s.heap.size)
  generalize hAe : va_A [(h0, .inr (12, (fsM g)))] s.heap.size = A at hD ⊢
  have hA : ∀ q : Nat, s.heap.size ≤ q → A q := fun q h => by rw [← hAe]; exact Or.inr h
  have hS : va_S A s.heap s.heap [] := va_S.rf
  have hl := lv_entry ([.ref h0, .int p0]) (n := 2) (Nat.le_of_ble_eq_true rfl)
  rw [lg_entry_eq]
  generalize (lg_sl ([.ref h0, .int p0]) ++ List.replicate (2 - (lg_sl ([.ref h0, .int p0])).length) Slot.unset).toArray = ls at hl ⊢
  have hl : lv_has ls 2 [(0, .ref h0), (1, .int p0)] := hl
  refine lv_aload_n hx hb dX12_sectors_0 rfl (lv_at hl 0 rfl) ?_
  refine lv_iload_n hx hb dX12_sectors_1 rfl (lv_at hl 1 rfl) ?_
  have hPc := hP.sub (ws' := [(h0, .inr (12, (fsM g)))]) [0] rfl
  have hDc := hD.sub (ws' := [(h0, .inr (12, (fsM g)))]) [0] (by decide) rfl
  have hKc := hK
  refine vp_callSi (va_Run.run (va_runV (As := [.int p0]) (rest := []) ⟨hx, hb, hml, hown, hts⟩ (c_X12_isPicture l dC dI cI cB cZ cJ cC cP cV cT cO s.heap.size h0 g p0) (cwV 1 hts gq_X12_sectors_X12_isPicture_396 rfl rfl rfl (by decide +kernel) ⟨Nat.le_of_ble_eq_true rfl, Nat.le_of_ble_eq_true rfl⟩) ⟨fun a U g mk q => by obtain ⟨q0, q1, qP, qK, qD⟩ := q; exact ⟨q0, q1, qP, va_K.moved (u := U) (U := U.calling g mk a) (Vm.Alike.refl U.vm) qK, qD⟩, va_recv hKc hPc (ci := 12) (q0 := 0) rfl rfl, fun U hU hW => ⟨rfl, by rw [hU], by rw [hU]; exact hPc, va_K.moved hW.alike hKc, hDc.weaken (fun _ _ _ _ => trivial)⟩⟩ rfl rfl hl.1 rfl (lv_room (Nat.le_of_ble_eq_true rfl)) dX12_sectors_2 ⟨Nat.le_of_ble_eq_true rfl, Nat.le_of_ble_eq_true rfl⟩)) (fun r_1 hr_1 => ?_)
  obtain rfl : r_1 = 0 := hr_1
  refine lv_if_eq (tgt := 17) hx hb dX12_sectors_5 (by decide) (fun _ => ?_) (fun c_2 => absurd (by decide) c_2)
  refine lv_bipush (v := (-2)) hx hb dX12_sectors_17 (by decide) ?_
  exact W.iret (v := (-2)) hx hb hr (fun t ht hW => ⟨(-2), rfl, rfl, ht⟩) (fun _ h => by cases h) dX12_sectors_19
def dq_X11_spoil : List Cond := [.methodLink RX11 103 yX11_pictureAt, .instanceMethod yX11_pictureAt, .selects RX11 yX11_pictureAt yX11_pictureAt, .initialized RX11]
def wq_X11_spoil : List Cond := .code yX11_spoil cX11_spoil 6 (some .int) :: (dq_X11_spoil ++ (wq_X11_pictureAt))
theorem mq_X11_spoil_X11_pictureAt : ∀ w ∈ wq_X11_pictureAt, w ∈ wq_X11_spoil := fun w h => List.mem_cons_of_mem _ (List.mem_append_right _ (h))
theorem ga_X11_spoil : wq_X11_spoil.all goodWord = true := by decide +kernel
theorem gq_X11_spoil_X11_pictureAt_103 : GoodIn wq_X11_spoil (wsV RX11 103 RX11 yX11_pictureAt wq_X11_pictureAt) := goodIn_app (goodIn_r _ [1, 2, 3, 4] (by decide +kernel) (by decide +kernel)) (goodIn_sub mq_X11_spoil_X11_pictureAt ga_X11_pictureAt)
theorem tdq_X11_spoil : ∀ w ∈ dq_X11_spoil, w ∈ lw_tbl := fun w h => (goodIn_r (big := lw_tbl) dq_X11_spoil [742, 744, 0, 290] (by decide +kernel) (by decide +kernel) w h).1
theorem tq_X11_spoil : ∀ w ∈ wq_X11_spoil, w ∈ lw_tbl := fun w h => (List.mem_cons.mp h).elim (fun e => by rw [e]; exact List.mem_of_getElem? (i := 749) (by decide +kernel)) (fun h => (List.mem_append.mp h).elim (fun h => tdq_X11_spoil w h) (fun h => tq_X11_pictureAt w h))
set_option maxHeartbeats 40000000 in
set_option maxRecDepth 100000 in
theorem c_X11_spoil (l : Launch) (dC : Nat → ClassId) (dI : Nat → Nat → Nat) (cI cB cZ cJ cC cP cV cT cO : ClassId) (sz : Nat) (h0 : Nat) (g : Nat → Nat)  (p0 : Int32) (p1 : Int32) (p2 : Int32) : Met l yX11_spoil wq_X11_spoil ({ frames := 1, cells := 0, slots := 0, locals := 21 }) (va_Pc [.ref h0, .int p0, .int p1, .int p2] (fun U => U.heap.size = sz ∧ va_P (dC, dI) vwCl [(h0, .inr (11, (fsX g)))] U.heap ∧ va_K (dC, dI) vwCl [(cI, .int), (cB, .byte), (cZ, .boolean), (cJ, .long), (cC, .char), (cP, .object "DiskEvidence$Picture"), (cV, .object "DiskEvidence$Volume"), (cT, .object "DiskEvidence$Tree"), (cO, .object "DiskEvidence$Opening")] U ∧ va_D (fun _ => True) [(h0, .inr (11, (fsX g)))])) (vp_Si (fun r : Int32 => r = (-2))) 0 0 (fun _ => False) := by
  refine Met.ofW (cc := cX11_spoil) (maxL := 6) (ret := (some .int)) (by decide) rfl ?_
  intro p e s m args below meth c s₁ B hml hv
  obtain ⟨rfl, hsz, hP, hK, hD0⟩ := hv
  have hx := B.exec
  have hb := B.bytes
  have hr := B.returns
  have hts := atoms_spec (ws := wq_X11_spoil) B.pre
  have hown : s.vm.findClass RX11 = some m.cls := findClass_of_methodNamed B.named
  have hlocks := B.notSynchronized
  subst hsz
  have hD := hD0.self (sz := s.heap.size)
  generalize hAe : va_A [(h0, .inr (11, (fsX g)))] s.heap.size = A at hD ⊢
  have hA : ∀ q : Nat, s.heap.size ≤ q → A q := fun q h => by rw [← hAe]; exact Or.inr h
  have hS : va_S A s.heap s.heap [] := va_S.rf
  have hl := lv_entry ([.ref h0, .int p0, .int p1, .int p2]) (n := 6) (Nat.le_of_ble_eq_true rfl)
  rw [lg_entry_eq]
  generalize (lg_sl ([.ref h0, .int p0, .int p1, .int p2]) ++ List.replicate (6 - (lg_sl ([.ref h0, .int p0, .int p1, .int p2])).length) Slot.unset).toArray = ls at hl ⊢
  have hl : lv_has ls 6 [(0, .ref h0), (1, .int p0), (2, .int p1), (3, .int p2)] := hl
  refine lv_aload_n hx hb dX11_spoil_0 rfl (lv_at hl 0 rfl) ?_
  refine lv_iload_n hx hb dX11_spoil_1 rfl (lv_at hl 1 rfl) ?_
  have hPc := hP.sub (ws' := [(h0, .inr (11, (fsX g)))]) [0] rfl
  have hDc := hD.sub (ws' := [(h0, .inr (11, (fsX g)))]) [0] (by decide) rfl
  have hKc := hK
  refine va_csq (va_Run.run (va_runV (As := [.int p0]) (rest := []) ⟨hx, hb, hml, hown, hts⟩ (c_X11_pictureAt l dC dI cI cB cZ cJ cC cP cV cT cO s.heap.size h0 g p0) (cwV 1 hts gq_X11_spoil_X11_pictureAt_103 rfl rfl rfl (by decide +kernel) ⟨Nat.le_of_ble_eq_true rfl, Nat.le_of_ble_eq_true rfl⟩) ⟨fun a U g mk q => by obtain ⟨q0, q1, qP, qK, qD⟩ := q; exact ⟨q0, q1, qP, va_K.moved (u := U) (U := U.calling g mk a) (Vm.Alike.refl U.vm) qK, qD⟩, va_recv hKc hPc (ci := 11) (q0 := 0) rfl rfl, fun U hU hW => ⟨rfl, by rw [hU], by rw [hU]; exact hPc, va_K.moved hW.alike hKc, hDc.weaken (fun _ _ _ _ => trivial)⟩⟩ rfl rfl hl.1 rfl (lv_room (Nat.le_of_ble_eq_true rfl)) dX11_spoil_2 ⟨Nat.le_of_ble_eq_true rfl, Nat.le_of_ble_eq_true rfl⟩)) (fun r_1 hr_1 => ?_)
  obtain rfl : r_1 = none := hr_1
  refine W.eq (g2 := F0 m 5 ls ([.null])) rfl ?_
  refine lv_astoreN (lv' := [(4, .null), (0, .ref h0), (1, .int p0), (2, .int p1), (3, .int p2)]) hx hb dX11_spoil_5 hl (by decide) rfl (fun ls hl => ?_)
  refine lv_aloadN hx hb dX11_spoil_7 (lv_at hl 0 rfl) ?_
  refine lv_ifnullN (tgt := 25) hx hb dX11_spoil_9 (by decide) ?_
  refine lv_bipush (v := (-2)) hx hb dX11_spoil_25 (by decide) ?_
  exact W.iret (v := (-2)) hx hb hr (fun t ht hW => ⟨(-2), rfl, rfl, ht⟩) (fun _ h => by cases h) dX11_spoil_27
def dq_X12_spoil : List Cond := [.methodLink RX12 424 yX12_isSector, .instanceMethod yX12_isSector, .selects RX12 yX12_isSector yX12_isSector, .initialized RX12]
def wq_X12_spoil : List Cond := .code yX12_spoil cX12_spoil 5 (some .int) :: (dq_X12_spoil ++ (wq_X12_isSector))
theorem mq_X12_spoil_X12_isSector : ∀ w ∈ wq_X12_isSector, w ∈ wq_X12_spoil := fun w h => List.mem_cons_of_mem _ (List.mem_append_right _ (h))
theorem ga_X12_spoil : wq_X12_spoil.all goodWord = true := by decide +kernel
theorem gq_X12_spoil_X12_isSector_424 : GoodIn wq_X12_spoil (wsV RX12 424 RX12 yX12_isSector wq_X12_isSector) := goodIn_app (goodIn_r _ [1, 2, 3, 4] (by decide +kernel) (by decide +kernel)) (goodIn_sub mq_X12_spoil_X12_isSector ga_X12_isSector)
theorem tdq_X12_spoil : ∀ w ∈ dq_X12_spoil, w ∈ lw_tbl := fun w h => (goodIn_r (big := lw_tbl) dq_X12_spoil [2830, 2832, 121, 296] (by decide +kernel) (by decide +kernel) w h).1
theorem tq_X12_spoil : ∀ w ∈ wq_X12_spoil, w ∈ lw_tbl := fun w h => (List.mem_cons.mp h).elim (fun e => by rw [e]; exact List.mem_of_getElem? (i := 2829) (by decide +kernel)) (fun h => (List.mem_append.mp h).elim (fun h => tdq_X12_spoil w h) (fun h => tq_X12_isSector w h))
set_option maxHeartbeats 40000000 in
set_option maxRecDepth 100000 in
theorem c_X12_spoil (l : Launch) (dC : Nat → ClassId) (dI : Nat → Nat → Nat) (cI cB cZ cJ cC cP cV cT cO : ClassId) (sz : Nat) (h0 : Nat) (g : Nat → Nat)  (p0 : Int32) (p1 : Int32) (p2 : Int32) : Met l yX12_spoil wq_X12_spoil ({ frames := 3, cells := 0, slots := 0, locals := 68 }) (va_Pc [.ref h0, .int p0, .int p1, .int p2] (fun U => U.heap.size = sz ∧ va_P (dC, dI) vwCl [(h0, .inr (12, (fsM g)))] U.heap ∧ va_K (dC, dI) vwCl [(cI, .int), (cB, .byte), (cZ, .boolean), (cJ, .long), (cC, .char), (cP, .object "DiskEvidence$Picture"), (cV, .object "DiskEvidence$Volume"), (cT, .object "DiskEvidence$Tree"), (cO, .object "DiskEvidence$Opening")] U ∧ va_D (fun _ => True) [(h0, .inr (12, (fsM g)))])) (vp_Si (fun r : Int32 => r = (-2))) 0 0 (fun _ => False) := by
  refine Met.ofW (cc := cX12_spoil) (maxL := 5) (ret := (some .int)) (by decide) rfl ?_
  intro p e s m args below meth c s₁ B hml hv
  obtain ⟨rfl, hsz, hP, hK, hD0⟩ := hv
  have hx := B.exec
  have hb := B.bytes
  have hr := B.returns
  have hts := atoms_spec (ws := wq_X12_spoil) B.pre
  have hown : s.vm.findClass RX12 = some m.cls := findClass_of_methodNamed B.named
  have hlocks := B.notSynchronized
  subst hsz
  have hD := hD0.self (sz := s.heap.size)
  generalize hAe : va_A [(h0, .inr (12, (fsM g)))] s.heap.size = A at hD ⊢
  have hA : ∀ q : Nat, s.heap.size ≤ q → A q := fun q h => by rw [← hAe]; exact Or.inr h
  have hS : va_S A s.heap s.heap [] := va_S.rf
  have hl := lv_entry ([.ref h0, .int p0, .int p1, .int p2]) (n := 5) (Nat.le_of_ble_eq_true rfl)
  rw [lg_entry_eq]
  generalize (lg_sl ([.ref h0, .int p0, .int p1, .int p2]) ++ List.replicate (5 - (lg_sl ([.ref h0, .int p0, .int p1, .int p2])).length) Slot.unset).toArray = ls at hl ⊢
  have hl : lv_has ls 5 [(0, .ref h0), (1, .int p0), (2, .int p1), (3, .int p2)] := hl
  refine lv_aload_n hx hb dX12_spoil_0 rfl (lv_at hl 0 rfl) ?_
  refine lv_iload_n hx hb dX12_spoil_1 rfl (lv_at hl 1 rfl) ?_
  refine lv_iload_n hx hb dX12_spoil_2 rfl (lv_at hl 2 rfl) ?_
  have hPc := hP.sub (ws' := [(h0, .inr (12, (fsM g)))]) [0] rfl
  have hDc := hD.sub (ws' := [(h0, .inr (12, (fsM g)))]) [0] (by decide) rfl
  have hKc := hK
  refine vp_callSi (va_Run.run (va_runV (As := [.int p0, .int p1]) (rest := []) ⟨hx, hb, hml, hown, hts⟩ (c_X12_isSector l dC dI cI cB cZ cJ cC cP cV cT cO s.heap.size h0 g p0 p1) (cwV 2 hts gq_X12_spoil_X12_isSector_424 rfl rfl rfl (by decide +kernel) ⟨Nat.le_of_ble_eq_true rfl, Nat.le_of_ble_eq_true rfl⟩) ⟨fun a U g mk q => by obtain ⟨q0, q1, qP, qK, qD⟩ := q; exact ⟨q0, q1, qP, va_K.moved (u := U) (U := U.calling g mk a) (Vm.Alike.refl U.vm) qK, qD⟩, va_recv hKc hPc (ci := 12) (q0 := 0) rfl rfl, fun U hU hW => ⟨rfl, by rw [hU], by rw [hU]; exact hPc, va_K.moved hW.alike hKc, hDc.weaken (fun _ _ _ _ => trivial)⟩⟩ rfl rfl hl.1 rfl (lv_room (Nat.le_of_ble_eq_true rfl)) dX12_spoil_3 ⟨Nat.le_of_ble_eq_true rfl, Nat.le_of_ble_eq_true rfl⟩)) (fun r_1 hr_1 => ?_)
  obtain rfl : r_1 = 0 := hr_1
  refine lv_if_ne (tgt := 12) hx hb dX12_spoil_6 (by decide) (fun c_2 => absurd (by decide) c_2) (fun _ => ?_)
  refine lv_bipush (v := (-2)) hx hb dX12_spoil_9 (by decide) ?_
  exact W.iret (v := (-2)) hx hb hr (fun t ht hW => ⟨(-2), rfl, rfl, ht⟩) (fun _ h => by cases h) dX12_spoil_11
def dq_X11_byteAt : List Cond := [.methodLink RX11 103 yX11_pictureAt, .instanceMethod yX11_pictureAt, .selects RX11 yX11_pictureAt yX11_pictureAt, .initialized RX11]
def wq_X11_byteAt : List Cond := .code yX11_byteAt cX11_byteAt 4 (some .int) :: (dq_X11_byteAt ++ (wq_X11_pictureAt))
theorem mq_X11_byteAt_X11_pictureAt : ∀ w ∈ wq_X11_pictureAt, w ∈ wq_X11_byteAt := fun w h => List.mem_cons_of_mem _ (List.mem_append_right _ (h))
theorem ga_X11_byteAt : wq_X11_byteAt.all goodWord = true := by decide +kernel
theorem gq_X11_byteAt_X11_pictureAt_103 : GoodIn wq_X11_byteAt (wsV RX11 103 RX11 yX11_pictureAt wq_X11_pictureAt) := goodIn_app (goodIn_r _ [1, 2, 3, 4] (by decide +kernel) (by decide +kernel)) (goodIn_sub mq_X11_byteAt_X11_pictureAt ga_X11_pictureAt)
theorem tdq_X11_byteAt : ∀ w ∈ dq_X11_byteAt, w ∈ lw_tbl := fun w h => (goodIn_r (big := lw_tbl) dq_X11_byteAt [742, 744, 0, 290] (by decide +kernel) (by decide +kernel) w h).1
theorem tq_X11_byteAt : ∀ w ∈ wq_X11_byteAt, w ∈ lw_tbl := fun w h => (List.mem_cons.mp h).elim (fun e => by rw [e]; exact List.mem_of_getElem? (i := 753) (by decide +kernel)) (fun h => (List.mem_append.mp h).elim (fun h => tdq_X11_byteAt w h) (fun h => tq_X11_pictureAt w h))
set_option maxHeartbeats 40000000 in
set_option maxRecDepth 100000 in
theorem c_X11_byteAt (l : Launch) (dC : Nat → ClassId) (dI : Nat → Nat → Nat) (cI cB cZ cJ cC cP cV cT cO : ClassId) (sz : Nat) (h0 : Nat) (g : Nat → Nat)  (p0 : Int32) (p1 : Int32) : Met l yX11_byteAt wq_X11_byteAt ({ frames := 1, cells := 0, slots := 0, locals := 21 }) (va_Pc [.ref h0, .int p0, .int p1] (fun U => U.heap.size = sz ∧ va_P (dC, dI) vwCl [(h0, .inr (11, (fsX g)))] U.heap ∧ va_K (dC, dI) vwCl [(cI, .int), (cB, .byte), (cZ, .boolean), (cJ, .long), (cC, .char), (cP, .object "DiskEvidence$Picture"), (cV, .object "DiskEvidence$Volume"), (cT, .object "DiskEvidence$Tree"), (cO, .object "DiskEvidence$Opening")] U ∧ va_D (fun _ => True) [(h0, .inr (11, (fsX g)))])) (vp_Si (fun r : Int32 => r = (-2))) 0 0 (fun _ => False) := by
  refine Met.ofW (cc := cX11_byteAt) (maxL := 4) (ret := (some .int)) (by decide) rfl ?_
  intro p e s m args below meth c s₁ B hml hv
  obtain ⟨rfl, hsz, hP, hK, hD0⟩ := hv
  have hx := B.exec
  have hb := B.bytes
  have hr := B.returns
  have hts := atoms_spec (ws := wq_X11_byteAt) B.pre
  have hown : s.vm.findClass RX11 = some m.cls := findClass_of_methodNamed B.named
  have hlocks := B.notSynchronized
  subst hsz
  have hD := hD0.self (sz := s.heap.size)
  generalize hAe : va_A [(h0, .inr (11, (fsX g)))] s.heap.size = A at hD ⊢
  have hA : ∀ q : Nat, s.heap.size ≤ q → A q := fun q h => by rw [← hAe]; exact Or.inr h
  have hS : va_S A s.heap s.heap [] := va_S.rf
  have hl := lv_entry ([.ref h0, .int p0, .int p1]) (n := 4) (Nat.le_of_ble_eq_true rfl)
  rw [lg_entry_eq]
  generalize (lg_sl ([.ref h0, .int p0, .int p1]) ++ List.replicate (4 - (lg_sl ([.ref h0, .int p0, .int p1])).length) Slot.unset).toArray = ls at hl ⊢
  have hl : lv_has ls 4 [(0, .ref h0), (1, .int p0), (2, .int p1)] := hl
  refine lv_aload_n hx hb dX11_byteAt_0 rfl (lv_at hl 0 rfl) ?_
  refine lv_iload_n hx hb dX11_byteAt_1 rfl (lv_at hl 1 rfl) ?_
  have hPc := hP.sub (ws' := [(h0, .inr (11, (fsX g)))]) [0] rfl
  have hDc := hD.sub (ws' := [(h0, .inr (11, (fsX g)))]) [0] (by decide) rfl
  have hKc := hK
  refine va_csq (va_Run.run (va_runV (As := [.int p0]) (rest := []) ⟨hx, hb, hml, hown, hts⟩ (c_X11_pictureAt l dC dI cI cB cZ cJ cC cP cV cT cO s.heap.size h0 g p0) (cwV 1 hts gq_X11_byteAt_X11_pictureAt_103 rfl rfl rfl (by decide +kernel) ⟨Nat.le_of_ble_eq_true rfl, Nat.le_of_ble_eq_true rfl⟩) ⟨fun a U g mk q => by obtain ⟨q0, q1, qP, qK, qD⟩ := q; exact ⟨q0, q1, qP, va_K.moved (u := U) (U := U.calling g mk a) (Vm.Alike.refl U.vm) qK, qD⟩, va_recv hKc hPc (ci := 11) (q0 := 0) rfl rfl, fun U hU hW => ⟨rfl, by rw [hU], by rw [hU]; exact hPc, va_K.moved hW.alike hKc, hDc.weaken (fun _ _ _ _ => trivial)⟩⟩ rfl rfl hl.1 rfl (lv_room (Nat.le_of_ble_eq_true rfl)) dX11_byteAt_2 ⟨Nat.le_of_ble_eq_true rfl, Nat.le_of_ble_eq_true rfl⟩)) (fun r_1 hr_1 => ?_)
  obtain rfl : r_1 = none := hr_1
  refine W.eq (g2 := F0 m 5 ls ([.null])) rfl ?_
  refine lv_astore_nN (lv' := [(3, .null), (0, .ref h0), (1, .int p0), (2, .int p1)]) hx hb dX11_byteAt_5 rfl hl (by decide) rfl (fun ls hl => ?_)
  refine lv_aload_nN hx hb dX11_byteAt_6 rfl (lv_at hl 0 rfl) ?_
  refine lv_ifnullN (tgt := 18) hx hb dX11_byteAt_7 (by decide) ?_
  refine lv_bipush (v := (-2)) hx hb dX11_byteAt_18 (by decide) ?_
  refine lv_goto (tgt := 28) hx hb dX11_byteAt_20 (by decide) ?_
  exact W.iret (v := (-2)) hx hb hr (fun t ht hW => ⟨(-2), rfl, rfl, ht⟩) (fun _ h => by cases h) dX11_byteAt_28
