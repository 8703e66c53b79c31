def dq_X11_dueLink : List Cond := [.constantLong RX11 426 (-7046029254386353131), .fieldLink RX11 69 "DiskEvidence" "acts" "[I", .constantLong RX11 428 (-4658895280553007687), .constantLong RX11 430 (-7723592293110705685)]
def wq_X11_dueLink : List Cond := .code yX11_dueLink cX11_dueLink 4 (some .long) :: (dq_X11_dueLink ++ (wsX110))
theorem inq_X11_dueLink_c11 : ∀ w ∈ wsX110, w ∈ wq_X11_dueLink := fun w h => List.mem_cons_of_mem _ (List.mem_append_right _ (h))
theorem ga_X11_dueLink : wq_X11_dueLink.all goodWord = true := by decide +kernel
theorem tdq_X11_dueLink : ∀ w ∈ dq_X11_dueLink, w ∈ lw_tbl := fun w h => (goodIn_r (big := lw_tbl) dq_X11_dueLink [2220, 603, 2221, 2222] (by decide +kernel) (by decide +kernel) w h).1
theorem tq_X11_dueLink : ∀ w ∈ wq_X11_dueLink, w ∈ lw_tbl := fun w h => (List.mem_cons.mp h).elim (fun e => by rw [e]; exact List.mem_of_getElem? (i := 2219) (by decide +kernel)) (fun h => (List.mem_append.mp h).elim (fun h => tdq_X11_dueLink w h) (fun h => nX11 w h))
set_option maxHeartbeats 40000000 in
set_option maxRecDepth 100000 in
theorem c_X11_dueLink (l : Launch) (dC : Nat → ClassId) (dI : Nat → Nat → Nat) (cI cB cZ cJ cC cP cV cT cO : ClassId) (sz : Nat) (h0 : Nat) (g : Nat → Nat) (f17 : Nat → Int32) (f18 : Nat → Int64)  : Met l yX11_dueLink wq_X11_dueLink ({ frames := 0, cells := 0, slots := 0, locals := 0 }) (va_Pc [.ref h0, .int 0] (fun U => U.heap.size = sz ∧ va_P (dC, dI) vwCl [(h0, .inr (11, (fsX g))), ((g 17), .inl (cI, 300, (.inl (f17)))), ((g 18), .inl (cJ, 100, (.inr (.inl (f18)))))] U.heap ∧ va_K (dC, dI) vwCl [(cI, .int), (cB, .byte), (cZ, .boolean), (cJ, .long), (cC, .char), (cP, .object "DiskEvidence$Picture"), (cV, .object "DiskEvidence$Volume"), (cT, .object "DiskEvidence$Tree"), (cO, .object "DiskEvidence$Opening")] U ∧ va_D (fun _ => True) [(h0, .inr (11, (fsX g))), ((g 17), .inl (cI, 300, (.inl (f17)))), ((g 18), .inl (cJ, 100, (.inr (.inl (f18)))))])) (vp_Sl (fun r : Int64 => True)) 0 0 (fun _ => False) := by
  refine Met.ofW (cc := cX11_dueLink) (maxL := 4) (ret := (some .long)) (by decide) rfl ?_
  intro p e s m args below meth c s₁ B hml hv
  obtain ⟨rfl, hsz, hP, hK, hD0⟩ := hv
  have hx := B.exec
  have hb := B.bytes
  have hr := B.returns
  have hts := atoms_spec (ws := wq_X11_dueLink) B.pre
  have hown : s.vm.findClass RX11 = some m.cls := findClass_of_methodNamed B.named
  have hlocks := B.notSynchronized
  subst hsz
  have hD := hD0.self (sz := s.heap.size)
  generalize hAe : va_A [(h0, .inr (11, (fsX g))), ((g 17), .inl (cI, 300, (.inl (f17)))), ((g 18), .inl (cJ, 100, (.inr (.inl (f18)))))] s.heap.size = A at hD ⊢
  have hA : ∀ q : Nat, s.heap.size ≤ q → A q := fun q h => by rw [← hAe]; exact Or.inr h
  have hS : va_S A s.heap s.heap [] := va_S.rf
  have hl := lv_entry ([.ref h0, .int 0]) (n := 4) (Nat.le_of_ble_eq_true rfl)
  rw [lg_entry_eq]
  generalize (lg_sl ([.ref h0, .int 0]) ++ List.replicate (4 - (lg_sl ([.ref h0, .int 0])).length) Slot.unset).toArray = ls at hl ⊢
  have hl : lv_has ls 4 [(0, .ref h0), (1, .int 0)] := hl
  refine lv_iload_n hx hb dX11_dueLink_0 rfl (lv_at hl 1 rfl) ?_
  refine lv_if_lt (tgt := 10) hx hb dX11_dueLink_1 (by decide) (fun c_1 => absurd c_1 (by decide)) (fun _ => ?_)
  refine lv_iload_n hx hb dX11_dueLink_4 rfl (lv_at hl 1 rfl) ?_
  refine lv_bipush (v := 100) hx hb dX11_dueLink_5 (by decide) ?_
  refine lv_icmp_lt (tgt := 12) hx hb dX11_dueLink_7 (by decide) (fun _ => ?_) (fun c_2 => absurd (by decide) c_2)
  refine lv_iload_n hx hb dX11_dueLink_12 rfl (lv_at hl 1 rfl) ?_
  refine lv_if_ne (tgt := 20) hx hb dX11_dueLink_13 (by decide) (fun c_3 => absurd (by decide) c_3) (fun _ => ?_)
  refine lv_lconst (v := 1) hx hb dX11_dueLink_16 (by decide) ?_
  refine lv_goto (tgt := 28) hx hb dX11_dueLink_17 (by decide) ?_
  refine lv_ldc2 (v := (-7046029254386353131)) hx hb hown (hts (.constantLong RX11 426 (-7046029254386353131)) (List.mem_of_getElem? (i := 1) rfl)) dX11_dueLink_28 ?_
  refine lv_lmul hx hb dX11_dueLink_31 ?_
  refine lv_topl (fun f_4 ef_4 => ?_)
  obtain rfl : (-7046029254386353131 : Int64) = f_4 := (ef_4.trans (by decide)).symm
  refine lv_aload_n hx hb dX11_dueLink_32 rfl (lv_at hl 0 rfl) ?_
  refine va_get (D := (dC, dI)) (ci := 11) (v := .ref (g 17)) (C := RX11) (T := TX11) (N := 20) hx hb hts inq_X11_dueLink_c11 hown hK hP 0 rfl rfl 17 (by decide) (hts (.fieldLink RX11 69 "DiskEvidence" "acts" "[I") (List.mem_of_getElem? (i := 2) rfl)) (fun _ h9 => h9) rfl dX11_dueLink_33 ?_
  refine lv_iload_n hx hb dX11_dueLink_36 rfl (lv_at hl 1 rfl) ?_
  refine lv_iconst (v := 3) hx hb dX11_dueLink_37 (by decide) ?_
  refine lv_imul hx hb dX11_dueLink_38 ?_
  refine lv_topi (fun f_5 ef_5 => ?_)
  obtain rfl : (0 : Int32) = f_5 := (ef_5.trans (by decide)).symm
  refine va_iald hx hb hK hP 1 0 rfl rfl (vp_in_nI (n := 0) (N := 300) (by decide) (by decide)) dX11_dueLink_39 ?_
  refine lv_topi (fun f_6 ef_6 => ?_)
  refine lv_i2l hx hb dX11_dueLink_40 rfl ?_
  refine lv_ladd hx hb dX11_dueLink_41 ?_
  refine lv_topl (fun f_7 ef_7 => ?_)
  refine lv_lstore_n (lv' := [(2, .long f_7), (0, .ref h0), (1, .int 0)]) hx hb dX11_dueLink_42 rfl hl (by decide) rfl (fun ls hl => ?_)
  refine lv_lload_n hx hb dX11_dueLink_43 rfl (lv_at hl 0 rfl) ?_
  refine lv_lload_n hx hb dX11_dueLink_44 rfl (lv_at hl 0 rfl) ?_
  refine lv_bipush (v := 29) hx hb dX11_dueLink_45 (by decide) ?_
  refine lv_lushr hx hb dX11_dueLink_47 rfl ?_
  refine lv_topl (fun f_8 ef_8 => ?_)
  refine lv_lxor hx hb dX11_dueLink_48 ?_
  refine lv_topl (fun f_9 ef_9 => ?_)
  refine lv_ldc2 (v := (-4658895280553007687)) hx hb hown (hts (.constantLong RX11 428 (-4658895280553007687)) (List.mem_of_getElem? (i := 3) rfl)) dX11_dueLink_49 ?_
  refine lv_lmul hx hb dX11_dueLink_52 ?_
  refine lv_topl (fun f_10 ef_10 => ?_)
  refine lv_aload_n hx hb dX11_dueLink_53 rfl (lv_at hl 1 rfl) ?_
  refine va_get (D := (dC, dI)) (ci := 11) (v := .ref (g 17)) (C := RX11) (T := TX11) (N := 20) hx hb hts inq_X11_dueLink_c11 hown hK hP 0 rfl rfl 17 (by decide) (hts (.fieldLink RX11 69 "DiskEvidence" "acts" "[I") (List.mem_of_getElem? (i := 2) rfl)) (fun _ h9 => h9) rfl dX11_dueLink_54 ?_
  refine lv_iload_n hx hb dX11_dueLink_57 rfl (lv_at hl 2 rfl) ?_
  refine lv_iconst (v := 3) hx hb dX11_dueLink_58 (by decide) ?_
  refine lv_imul hx hb dX11_dueLink_59 ?_
  refine lv_topi (fun f_11 ef_11 => ?_)
  obtain rfl : (0 : Int32) = f_11 := (ef_11.trans (by decide)).symm
  refine lv_iconst (v := 1) hx hb dX11_dueLink_60 (by decide) ?_
  refine lv_iadd hx hb dX11_dueLink_61 ?_
  refine lv_topi (fun f_12 ef_12 => ?_)
  obtain rfl : (1 : Int32) = f_12 := (ef_12.trans (by decide)).symm
  refine va_iald hx hb hK hP 1 0 rfl rfl (vp_in_nI (n := 1) (N := 300) (by decide) (by decide)) dX11_dueLink_62 ?_
  refine lv_topi (fun f_13 ef_13 => ?_)
  refine lv_i2l hx hb dX11_dueLink_63 rfl ?_
  refine lv_ladd hx hb dX11_dueLink_64 ?_
  refine lv_topl (fun f_14 ef_14 => ?_)
  refine lv_lstore_n (lv' := [(2, .long f_14), (0, .ref h0), (1, .int 0)]) hx hb dX11_dueLink_65 rfl hl (by decide) rfl (fun ls hl => ?_)
  refine lv_lload_n hx hb dX11_dueLink_66 rfl (lv_at hl 0 rfl) ?_
  refine lv_lload_n hx hb dX11_dueLink_67 rfl (lv_at hl 0 rfl) ?_
  refine lv_bipush (v := 32) hx hb dX11_dueLink_68 (by decide) ?_
  refine lv_lushr hx hb dX11_dueLink_70 rfl ?_
  refine lv_topl (fun f_15 ef_15 => ?_)
  refine lv_lxor hx hb dX11_dueLink_71 ?_
  refine lv_topl (fun f_16 ef_16 => ?_)
  refine lv_ldc2 (v := (-7723592293110705685)) hx hb hown (hts (.constantLong RX11 430 (-7723592293110705685)) (List.mem_of_getElem? (i := 4) rfl)) dX11_dueLink_72 ?_
  refine lv_lmul hx hb dX11_dueLink_75 ?_
  refine lv_topl (fun f_17 ef_17 => ?_)
  refine lv_aload_n hx hb dX11_dueLink_76 rfl (lv_at hl 1 rfl) ?_
  refine va_get (D := (dC, dI)) (ci := 11) (v := .ref (g 17)) (C := RX11) (T := TX11) (N := 20) hx hb hts inq_X11_dueLink_c11 hown hK hP 0 rfl rfl 17 (by decide) (hts (.fieldLink RX11 69 "DiskEvidence" "acts" "[I") (List.mem_of_getElem? (i := 2) rfl)) (fun _ h9 => h9) rfl dX11_dueLink_77 ?_
  refine lv_iload_n hx hb dX11_dueLink_80 rfl (lv_at hl 2 rfl) ?_
  refine lv_iconst (v := 3) hx hb dX11_dueLink_81 (by decide) ?_
  refine lv_imul hx hb dX11_dueLink_82 ?_
  refine lv_topi (fun f_18 ef_18 => ?_)
  obtain rfl : (0 : Int32) = f_18 := (ef_18.trans (by decide)).symm
  refine lv_iconst (v := 2) hx hb dX11_dueLink_83 (by decide) ?_
  refine lv_iadd hx hb dX11_dueLink_84 ?_
  refine lv_topi (fun f_19 ef_19 => ?_)
  obtain rfl : (2 : Int32) = f_19 := (ef_19.trans (by decide)).symm
  refine va_iald hx hb hK hP 1 0 rfl rfl (vp_in_nI (n := 2) (N := 300) (by decide) (by decide)) dX11_dueLink_85 ?_
  refine lv_topi (fun f_20 ef_20 => ?_)
  refine lv_i2l hx hb dX11_dueLink_86 rfl ?_
  refine lv_ladd hx hb dX11_dueLink_87 ?_
  refine lv_topl (fun f_21 ef_21 => ?_)
  refine lv_lstore_n (lv' := [(2, .long f_21), (0, .ref h0), (1, .int 0)]) hx hb dX11_dueLink_88 rfl hl (by decide) rfl (fun ls hl => ?_)
  refine lv_lload_n hx hb dX11_dueLink_89 rfl (lv_at hl 0 rfl) ?_
  refine lv_lload_n hx hb dX11_dueLink_90 rfl (lv_at hl 0 rfl) ?_
  refine lv_bipush (v := 31) hx hb dX11_dueLink_91 (by decide) ?_
  refine lv_lushr hx hb dX11_dueLink_93 rfl ?_
  refine lv_topl (fun f_22 ef_22 => ?_)
  refine lv_lxor hx hb dX11_dueLink_94 ?_
  refine lv_topl (fun f_23 ef_23 => ?_)
  exact W.lret (v := f_23) hx hb hr (fun t ht hW => ⟨f_23, rfl, trivial, ht⟩) (fun _ h => by cases h) dX11_dueLink_95
def dq_X12_linkOf : List Cond := [.constantLong RX12 1165 (-7046029254386353131), .fieldLink RX12 354 "DiskEvidenceModel" "actWho" "[I", .constantLong RX12 1167 (-4658895280553007687), .fieldLink RX12 357 "DiskEvidenceModel" "actWhat" "[I", .constantLong RX12 1169 (-7723592293110705685), .fieldLink RX12 360 "DiskEvidenceModel" "actAt" "[I"]
def wq_X12_linkOf : List Cond := .code yX12_linkOf cX12_linkOf 4 (some .long) :: (dq_X12_linkOf ++ (wsX120))
theorem inq_X12_linkOf_c12 : ∀ w ∈ wsX120, w ∈ wq_X12_linkOf := fun w h => List.mem_cons_of_mem _ (List.mem_append_right _ (h))
theorem ga_X12_linkOf : wq_X12_linkOf.all goodWord = true := by decide +kernel
theorem tdq_X12_linkOf : ∀ w ∈ dq_X12_linkOf, w ∈ lw_tbl := fun w h => (goodIn_r (big := lw_tbl) dq_X12_linkOf [3708, 2417, 3709, 2418, 3710, 2419] (by decide +kernel) (by decide +kernel) w h).1
theorem tq_X12_linkOf : ∀ w ∈ wq_X12_linkOf, w ∈ lw_tbl := fun w h => (List.mem_cons.mp h).elim (fun e => by rw [e]; exact List.mem_of_getElem? (i := 3707) (by decide +kernel)) (fun h => (List.mem_append.mp h).elim (fun h => tdq_X12_linkOf w h) (fun h => nX12 w h))
set_option maxHeartbeats 40000000 in
set_option maxRecDepth 100000 in
theorem c_X12_linkOf (l : Launch) (dC : Nat → ClassId) (dI : Nat → Nat → Nat) (cI cB cZ cJ cC cP cV cT cO : ClassId) (sz : Nat) (h0 : Nat) (g : Nat → Nat) (f8 f9 f0 : Nat → Int32) (f1 : Nat → Int64)  : Met l yX12_linkOf wq_X12_linkOf ({ frames := 0, cells := 0, slots := 0, locals := 0 }) (va_Pc [.ref h0, .int 0] (fun U => U.heap.size = sz ∧ va_P (dC, dI) vwCl [(h0, .inr (12, (fsM g))), ((g 168), .inl (cI, 100, (.inl (f8)))), ((g 169), .inl (cI, 100, (.inl (f9)))), ((g 170), .inl (cI, 100, (.inl (f0)))), ((g 171), .inl (cJ, 100, (.inr (.inl (f1)))))] U.heap ∧ va_K (dC, dI) vwCl [(cI, .int), (cB, .byte), (cZ, .boolean), (cJ, .long), (cC, .char), (cP, .object "DiskEvidence$Picture"), (cV, .object "DiskEvidence$Volume"), (cT, .object "DiskEvidence$Tree"), (cO, .object "DiskEvidence$Opening")] U ∧ va_D (fun _ => True) [(h0, .inr (12, (fsM g))), ((g 168), .inl (cI, 100, (.inl (f8)))), ((g 169), .inl (cI, 100, (.inl (f9)))), ((g 170), .inl (cI, 100, (.inl (f0)))), ((g 171), .inl (cJ, 100, (.inr (.inl (f1)))))])) (vp_Sl (fun r : Int64 => True)) 0 0 (fun _ => False) := by
  refine Met.ofW (cc := cX12_linkOf) (maxL := 4) (ret := (some .long)) (by decide) rfl ?_
  intro p e s m args below meth c s₁ B hml hv
  obtain ⟨rfl, hsz, hP, hK, hD0⟩ := hv
  have hx := B.exec
  have hb := B.bytes
  have hr := B.returns
  have hts := atoms_spec (ws := wq_X12_linkOf) B.pre
  have hown : s.vm.findClass RX12 = some m.cls := findClass_of_methodNamed B.named
  have hlocks := B.notSynchronized
  subst hsz
  have hD := hD0.self (sz := s.heap.size)
  generalize hAe : va_A [(h0, .inr (12, (fsM g))), ((g 168), .inl (cI, 100, (.inl (f8)))), ((g 169), .inl (cI, 100, (.inl (f9)))), ((g 170), .inl (cI, 100, (.inl (f0)))), ((g 171), .inl (cJ, 100, (.inr (.inl (f1)))))] s.heap.size = A at hD ⊢
  have hA : ∀ q : Nat, s.heap.size ≤ q → A q := fun q h => by rw [← hAe]; exact Or.inr h
  have hS : va_S A s.heap s.heap [] := va_S.rf
  have hl := lv_entry ([.ref h0, .int 0]) (n := 4) (Nat.le_of_ble_eq_true rfl)
  rw [lg_entry_eq]
  generalize (lg_sl ([.ref h0, .int 0]) ++ List.replicate (4 - (lg_sl ([.ref h0, .int 0])).length) Slot.unset).toArray = ls at hl ⊢
  have hl : lv_has ls 4 [(0, .ref h0), (1, .int 0)] := hl
  refine lv_iload_n hx hb dX12_linkOf_0 rfl (lv_at hl 1 rfl) ?_
  refine lv_if_ne (tgt := 8) hx hb dX12_linkOf_1 (by decide) (fun c_1 => absurd (by decide) c_1) (fun _ => ?_)
  refine lv_lconst (v := 1) hx hb dX12_linkOf_4 (by decide) ?_
  refine lv_goto (tgt := 16) hx hb dX12_linkOf_5 (by decide) ?_
  refine lv_ldc2 (v := (-7046029254386353131)) hx hb hown (hts (.constantLong RX12 1165 (-7046029254386353131)) (List.mem_of_getElem? (i := 1) rfl)) dX12_linkOf_16 ?_
  refine lv_lmul hx hb dX12_linkOf_19 ?_
  refine lv_topl (fun f_2 ef_2 => ?_)
  obtain rfl : (-7046029254386353131 : Int64) = f_2 := (ef_2.trans (by decide)).symm
  refine lv_aload_n hx hb dX12_linkOf_20 rfl (lv_at hl 0 rfl) ?_
  refine va_get (D := (dC, dI)) (ci := 12) (v := .ref (g 168)) (C := RX12) (T := TX12) (N := 172) hx hb hts inq_X12_linkOf_c12 hown hK hP 0 rfl rfl 168 (by decide) (hts (.fieldLink RX12 354 "DiskEvidenceModel" "actWho" "[I") (List.mem_of_getElem? (i := 2) rfl)) (fun _ h9 => h9) rfl dX12_linkOf_21 ?_
  refine lv_iload_n hx hb dX12_linkOf_24 rfl (lv_at hl 1 rfl) ?_
  refine va_iald hx hb hK hP 1 0 rfl rfl (vp_in_nI (n := 0) (N := 100) (by decide) (by decide)) dX12_linkOf_25 ?_
  refine lv_topi (fun f_3 ef_3 => ?_)
  refine lv_i2l hx hb dX12_linkOf_26 rfl ?_
  refine lv_ladd hx hb dX12_linkOf_27 ?_
  refine lv_topl (fun f_4 ef_4 => ?_)
  refine lv_lstore_n (lv' := [(2, .long f_4), (0, .ref h0), (1, .int 0)]) hx hb dX12_linkOf_28 rfl hl (by decide) rfl (fun ls hl => ?_)
  refine lv_lload_n hx hb dX12_linkOf_29 rfl (lv_at hl 0 rfl) ?_
  refine lv_lload_n hx hb dX12_linkOf_30 rfl (lv_at hl 0 rfl) ?_
  refine lv_bipush (v := 29) hx hb dX12_linkOf_31 (by decide) ?_
  refine lv_lushr hx hb dX12_linkOf_33 rfl ?_
  refine lv_topl (fun f_5 ef_5 => ?_)
  refine lv_lxor hx hb dX12_linkOf_34 ?_
  refine lv_topl (fun f_6 ef_6 => ?_)
  refine lv_ldc2 (v := (-4658895280553007687)) hx hb hown (hts (.constantLong RX12 1167 (-4658895280553007687)) (List.mem_of_getElem? (i := 3) rfl)) dX12_linkOf_35 ?_
  refine lv_lmul hx hb dX12_linkOf_38 ?_
  refine lv_topl (fun f_7 ef_7 => ?_)
  refine lv_aload_n hx hb dX12_linkOf_39 rfl (lv_at hl 1 rfl) ?_
  refine va_get (D := (dC, dI)) (ci := 12) (v := .ref (g 169)) (C := RX12) (T := TX12) (N := 172) hx hb hts inq_X12_linkOf_c12 hown hK hP 0 rfl rfl 169 (by decide) (hts (.fieldLink RX12 357 "DiskEvidenceModel" "actWhat" "[I") (List.mem_of_getElem? (i := 4) rfl)) (fun _ h9 => h9) rfl dX12_linkOf_40 ?_
  refine lv_iload_n hx hb dX12_linkOf_43 rfl (lv_at hl 2 rfl) ?_
  refine va_iald hx hb hK hP 2 0 rfl rfl (vp_in_nI (n := 0) (N := 100) (by decide) (by decide)) dX12_linkOf_44 ?_
  refine lv_topi (fun f_8 ef_8 => ?_)
  refine lv_i2l hx hb dX12_linkOf_45 rfl ?_
  refine lv_ladd hx hb dX12_linkOf_46 ?_
  refine lv_topl (fun f_9 ef_9 => ?_)
  refine lv_lstore_n (lv' := [(2, .long f_9), (0, .ref h0), (1, .int 0)]) hx hb dX12_linkOf_47 rfl hl (by decide) rfl (fun ls hl => ?_)
  refine lv_lload_n hx hb dX12_linkOf_48 rfl (lv_at hl 0 rfl) ?_
  refine lv_lload_n hx hb dX12_linkOf_49 rfl (lv_at hl 0 rfl) ?_
  refine lv_bipush (v := 32) hx hb dX12_linkOf_50 (by decide) ?_
  refine lv_lushr hx hb dX12_linkOf_52 rfl ?_
  refine lv_topl (fun f_10 ef_10 => ?_)
  refine lv_lxor hx hb dX12_linkOf_53 ?_
  refine lv_topl (fun f_11 ef_11 => ?_)
  refine lv_ldc2 (v := (-7723592293110705685)) hx hb hown (hts (.constantLong RX12 1169 (-7723592293110705685)) (List.mem_of_getElem? (i := 5) rfl)) dX12_linkOf_54 ?_
  refine lv_lmul hx hb dX12_linkOf_57 ?_
  refine lv_topl (fun f_12 ef_12 => ?_)
  refine lv_aload_n hx hb dX12_linkOf_58 rfl (lv_at hl 1 rfl) ?_
  refine va_get (D := (dC, dI)) (ci := 12) (v := .ref (g 170)) (C := RX12) (T := TX12) (N := 172) hx hb hts inq_X12_linkOf_c12 hown hK hP 0 rfl rfl 170 (by decide) (hts (.fieldLink RX12 360 "DiskEvidenceModel" "actAt" "[I") (List.mem_of_getElem? (i := 6) rfl)) (fun _ h9 => h9) rfl dX12_linkOf_59 ?_
  refine lv_iload_n hx hb dX12_linkOf_62 rfl (lv_at hl 2 rfl) ?_
  refine va_iald hx hb hK hP 3 0 rfl rfl (vp_in_nI (n := 0) (N := 100) (by decide) (by decide)) dX12_linkOf_63 ?_
  refine lv_topi (fun f_13 ef_13 => ?_)
  refine lv_i2l hx hb dX12_linkOf_64 rfl ?_
  refine lv_ladd hx hb dX12_linkOf_65 ?_
  refine lv_topl (fun f_14 ef_14 => ?_)
  refine lv_lstore_n (lv' := [(2, .long f_14), (0, .ref h0), (1, .int 0)]) hx hb dX12_linkOf_66 rfl hl (by decide) rfl (fun ls hl => ?_)
  refine lv_lload_n hx hb dX12_linkOf_67 rfl (lv_at hl 0 rfl) ?_
  refine lv_lload_n hx hb dX12_linkOf_68 rfl (lv_at hl 0 rfl) ?_
  refine lv_bipush (v := 31) hx hb dX12_linkOf_69 (by decide) ?_
  refine lv_lushr hx hb dX12_linkOf_71 rfl ?_
  refine lv_topl (fun f_15 ef_15 => ?_)
  refine lv_lxor hx hb dX12_linkOf_72 ?_
  refine lv_topl (fun f_16 ef_16 => ?_)
  exact W.lret (v := f_16) hx hb hr (fun t ht hW => ⟨f_16, rfl, trivial, ht⟩) (fun _ h => by cases h) dX12_linkOf_73
def dq_X11_act : List Cond := [.fieldLink RX11 416 "DiskEvidence" "actCount" "I", .fieldLink RX11 69 "DiskEvidence" "acts" "[I", .fieldLink RX11 82 "DiskEvidence" "now" "I", .fieldLink RX11 72 "DiskEvidence" "links" "[J", .methodLink RX11 419 yX11_dueLink, .instanceMethod yX11_dueLink, .selects RX11 yX11_dueLink yX11_dueLink, .initialized RX11]
def wq_X11_act : List Cond := .code yX11_act cX11_act 4 (some .int) :: (dq_X11_act ++ (wsX110 ++ (wq_X11_dueLink)))
theorem inq_X11_act_c11 : ∀ w ∈ wsX110, w ∈ wq_X11_act := fun w h => List.mem_cons_of_mem _ (List.mem_append_right _ (List.mem_append_left _ h))
theorem mq_X11_act_X11_dueLink : ∀ w ∈ wq_X11_dueLink, w ∈ wq_X11_act := fun w h => List.mem_cons_of_mem _ (List.mem_append_right _ (List.mem_append_right _ (h)))
theorem ga_X11_act : wq_X11_act.all goodWord = true := by decide +kernel
theorem gq_X11_act_X11_dueLink_419 : GoodIn wq_X11_act (wsV RX11 419 RX11 yX11_dueLink wq_X11_dueLink) := goodIn_app (goodIn_r _ [5, 6, 7, 8] (by decide +kernel) (by decide +kernel)) (goodIn_sub mq_X11_act_X11_dueLink ga_X11_dueLink)
theorem tdq_X11_act : ∀ w ∈ dq_X11_act, w ∈ lw_tbl := fun w h => (goodIn_r (big := lw_tbl) dq_X11_act [605, 603, 588, 604, 2216, 2218, 115, 290] (by decide +kernel) (by decide +kernel) w h).1
theorem tq_X11_act : ∀ w ∈ wq_X11_act, w ∈ lw_tbl := fun w h => (List.mem_cons.mp h).elim (fun e => by rw [e]; exact List.mem_of_getElem? (i := 2215) (by decide +kernel)) (fun h => (List.mem_append.mp h).elim (fun h => tdq_X11_act w h) (fun h => (List.mem_append.mp h).elim (fun h => nX11 w h) (fun h => tq_X11_dueLink w h)))
set_option maxHeartbeats 40000000 in
set_option maxRecDepth 100000 in
theorem c_X11_act (l : Launch) (dC : Nat → ClassId) (dI : Nat → Nat → Nat) (cI cB cZ cJ cC cP cV cT cO : ClassId) (sz : Nat) (h0 : Nat) (g : Nat → Nat) (f17 : Nat → Int32) (f18 : Nat → Int64) (p0 : Int32) (p1 : Int32) : Met l yX11_act wq_X11_act ({ frames := 1, cells := 0, slots := 0, locals := 23 }) (va_Pc [.ref h0, .int p0, .int p1] (fun U => U.heap.size = sz ∧ va_P (dC, dI) vwCl [(h0, .inr (11, (fsX g))), ((g 17), .inl (cI, 300, (.inl (f17)))), ((g 18), .inl (cJ, 100, (.inr (.inl (f18)))))] U.heap ∧ va_K (dC, dI) vwCl [(cI, .int), (cB, .byte), (cZ, .boolean), (cJ, .long), (cC, .char), (cP, .object "DiskEvidence$Picture"), (cV, .object "DiskEvidence$Volume"), (cT, .object "DiskEvidence$Tree"), (cO, .object "DiskEvidence$Opening")] U ∧ va_D (fun _ => True) [(h0, .inr (11, (fsX g))), ((g 17), .inl (cI, 300, (.inl (f17)))), ((g 18), .inl (cJ, 100, (.inr (.inl (f18)))))])) (va_Qi (fun (r : Int32) (_ : Unit) => r = 0) (fun _ _ => True) (va_A [(h0, .inr (11, (fsX g))), ((g 17), .inl (cI, 300, (.inl (f17)))), ((g 18), .inl (cJ, 100, (.inr (.inl (f18)))))] sz)) 0 0 (va_A [(h0, .inr (11, (fsX g))), ((g 17), .inl (cI, 300, (.inl (f17)))), ((g 18), .inl (cJ, 100, (.inr (.inl (f18)))))] sz) := by
  refine Met.ofW (cc := cX11_act) (maxL := 4) (ret := (some .int)) (by decide) rfl ?_
  intro p e s m args below meth c s₁ B hml hv
  obtain ⟨rfl, hsz, hP, hK, hD0⟩ := hv
  have hx := B.exec
  have hb := B.bytes
  have hr := B.returns
  have hts := atoms_spec (ws := wq_X11_act) B.pre
  have hown : s.vm.findClass RX11 = some m.cls := findClass_of_methodNamed B.named
  have hlocks := B.notSynchronized
  subst hsz
  have hD := hD0.self (sz := s.heap.size)
  generalize hAe : va_A [(h0, .inr (11, (fsX g))), ((g 17), .inl (cI, 300, (.inl (f17)))), ((g 18), .inl (cJ, 100, (.inr (.inl (f18)))))] s.heap.size = A at hD ⊢
  have hA : ∀ q : Nat, s.heap.size ≤ q → A q := fun q h => by rw [← hAe]; exact Or.inr h
  have hS : va_S A s.heap s.heap [] := va_S.rf
  have hl := lv_entry ([.ref h0, .int p0, .int p1]) (n := 4) (Nat.le_of_ble_eq_true rfl)
  rw [lg_entry_eq]
  generalize (lg_sl ([.ref h0, .int p0, .int p1]) ++ List.replicate (4 - (lg_sl ([.ref h0, .int p0, .int p1])).length) Slot.unset).toArray = ls at hl ⊢
  have hl : lv_has ls 4 [(0, .ref h0), (1, .int p0), (2, .int p1)] := hl
  refine lv_aload_n hx hb dX11_act_0 rfl (lv_at hl 0 rfl) ?_
  refine va_get (D := (dC, dI)) (ci := 11) (v := .int 0) (C := RX11) (T := TX11) (N := 20) hx hb hts inq_X11_act_c11 hown hK hP 0 rfl rfl 19 (by decide) (hts (.fieldLink RX11 416 "DiskEvidence" "actCount" "I") (List.mem_of_getElem? (i := 1) rfl)) (fun _ h9 => h9) rfl dX11_act_1 ?_
  refine lv_bipush (v := 100) hx hb dX11_act_4 (by decide) ?_
  refine lv_icmp_lt (tgt := 12) hx hb dX11_act_6 (by decide) (fun _ => ?_) (fun c_1 => absurd (by decide) c_1)
  refine lv_aload_n hx hb dX11_act_12 rfl (lv_at hl 0 rfl) ?_
  refine va_get (D := (dC, dI)) (ci := 11) (v := .int 0) (C := RX11) (T := TX11) (N := 20) hx hb hts inq_X11_act_c11 hown hK hP 0 rfl rfl 19 (by decide) (hts (.fieldLink RX11 416 "DiskEvidence" "actCount" "I") (List.mem_of_getElem? (i := 1) rfl)) (fun _ h9 => h9) rfl dX11_act_13 ?_
  refine lv_iconst (v := 3) hx hb dX11_act_16 (by decide) ?_
  refine lv_imul hx hb dX11_act_17 ?_
  refine lv_topi (fun f_2 ef_2 => ?_)
  obtain rfl : (0 : Int32) = f_2 := (ef_2.trans (by decide)).symm
  refine lv_istore_n (lv' := [(3, .int 0), (0, .ref h0), (1, .int p0), (2, .int p1)]) hx hb dX11_act_18 rfl hl (by decide) rfl (fun ls hl => ?_)
  refine lv_aload_n hx hb dX11_act_19 rfl (lv_at hl 1 rfl) ?_
  refine va_get (D := (dC, dI)) (ci := 11) (v := .ref (g 17)) (C := RX11) (T := TX11) (N := 20) hx hb hts inq_X11_act_c11 hown hK hP 0 rfl rfl 17 (by decide) (hts (.fieldLink RX11 69 "DiskEvidence" "acts" "[I") (List.mem_of_getElem? (i := 2) rfl)) (fun _ h9 => h9) rfl dX11_act_20 ?_
  refine lv_iload_n hx hb dX11_act_23 rfl (lv_at hl 0 rfl) ?_
  refine lv_iload_n hx hb dX11_act_24 rfl (lv_at hl 2 rfl) ?_
  refine va_iast hx hb hK hP hD hS 1 0 rfl rfl (vp_in_nI (n := 0) (N := 300) (by decide) (by decide)) dX11_act_25 (fun H locs hP hD hS => ?_)
  obtain ⟨g_3, eg_3⟩ : ∃ y, y = upd (f17) (0 : Int32).toNatClampNeg p0 := ⟨_, rfl⟩
  rw [← eg_3] at hP hD
  have hP : va_P (dC, dI) vwCl [(h0, .inr (11, (fsX g))), ((g 17), .inl (cI, 300, (.inl (g_3)))), ((g 18), .inl (cJ, 100, (.inr (.inl (f18)))))] H := hP
  have hD : va_D A [(h0, .inr (11, (fsX g))), ((g 17), .inl (cI, 300, (.inl (g_3)))), ((g 18), .inl (cJ, 100, (.inr (.inl (f18)))))] := hD
  refine lv_aload_n hx hb dX11_act_26 rfl (lv_at hl 1 rfl) ?_
  refine va_get (D := (dC, dI)) (ci := 11) (v := .ref (g 17)) (C := RX11) (T := TX11) (N := 20) hx hb hts inq_X11_act_c11 hown hK hP 0 rfl rfl 17 (by decide) (hts (.fieldLink RX11 69 "DiskEvidence" "acts" "[I") (List.mem_of_getElem? (i := 2) rfl)) (fun _ h9 => h9) rfl dX11_act_27 ?_
  refine lv_iload_n hx hb dX11_act_30 rfl (lv_at hl 0 rfl) ?_
  refine lv_iconst (v := 1) hx hb dX11_act_31 (by decide) ?_
  refine lv_iadd hx hb dX11_act_32 ?_
  refine lv_topi (fun f_4 ef_4 => ?_)
  obtain rfl : (1 : Int32) = f_4 := (ef_4.trans (by decide)).symm
  refine lv_iload_n hx hb dX11_act_33 rfl (lv_at hl 3 rfl) ?_
  refine va_iast hx hb hK hP hD hS 1 0 rfl rfl (vp_in_nI (n := 1) (N := 300) (by decide) (by decide)) dX11_act_34 (fun H locs hP hD hS => ?_)
  obtain ⟨g_5, eg_5⟩ : ∃ y, y = upd (g_3) (1 : Int32).toNatClampNeg p1 := ⟨_, rfl⟩
  rw [← eg_5] at hP hD
  have hP : va_P (dC, dI) vwCl [(h0, .inr (11, (fsX g))), ((g 17), .inl (cI, 300, (.inl (g_5)))), ((g 18), .inl (cJ, 100, (.inr (.inl (f18)))))] H := hP
  have hD : va_D A [(h0, .inr (11, (fsX g))), ((g 17), .inl (cI, 300, (.inl (g_5)))), ((g 18), .inl (cJ, 100, (.inr (.inl (f18)))))] := hD
  refine lv_aload_n hx hb dX11_act_35 rfl (lv_at hl 1 rfl) ?_
  refine va_get (D := (dC, dI)) (ci := 11) (v := .ref (g 17)) (C := RX11) (T := TX11) (N := 20) hx hb hts inq_X11_act_c11 hown hK hP 0 rfl rfl 17 (by decide) (hts (.fieldLink RX11 69 "DiskEvidence" "acts" "[I") (List.mem_of_getElem? (i := 2) rfl)) (fun _ h9 => h9) rfl dX11_act_36 ?_
  refine lv_iload_n hx hb dX11_act_39 rfl (lv_at hl 0 rfl) ?_
  refine lv_iconst (v := 2) hx hb dX11_act_40 (by decide) ?_
  refine lv_iadd hx hb dX11_act_41 ?_
  refine lv_topi (fun f_6 ef_6 => ?_)
  obtain rfl : (2 : Int32) = f_6 := (ef_6.trans (by decide)).symm
  refine lv_aload_n hx hb dX11_act_42 rfl (lv_at hl 1 rfl) ?_
  refine va_get (D := (dC, dI)) (ci := 11) (v := .int 0) (C := RX11) (T := TX11) (N := 20) hx hb hts inq_X11_act_c11 hown hK hP 0 rfl rfl 2 (by decide) (hts (.fieldLink RX11 82 "DiskEvidence" "now" "I") (List.mem_of_getElem? (i := 3) rfl)) (fun _ h9 => h9) rfl dX11_act_43 ?_
  refine va_iast hx hb hK hP hD hS 1 0 rfl rfl (vp_in_nI (n := 2) (N := 300) (by decide) (by decide)) dX11_act_46 (fun H locs hP hD hS => ?_)
  obtain ⟨g_7, eg_7⟩ : ∃ y, y = upd (g_5) (2 : Int32).toNatClampNeg 0 := ⟨_, rfl⟩
  rw [← eg_7] at hP hD
  have hP : va_P (dC, dI) vwCl [(h0, .inr (11, (fsX g))), ((g 17), .inl (cI, 300, (.inl (g_7)))), ((g 18), .inl (cJ, 100, (.inr (.inl (f18)))))] H := hP
  have hD : va_D A [(h0, .inr (11, (fsX g))), ((g 17), .inl (cI, 300, (.inl (g_7)))), ((g 18), .inl (cJ, 100, (.inr (.inl (f18)))))] := hD
  refine lv_aload_n hx hb dX11_act_47 rfl (lv_at hl 1 rfl) ?_
  refine va_get (D := (dC, dI)) (ci := 11) (v := .ref (g 18)) (C := RX11) (T := TX11) (N := 20) hx hb hts inq_X11_act_c11 hown hK hP 0 rfl rfl 18 (by decide) (hts (.fieldLink RX11 72 "DiskEvidence" "links" "[J") (List.mem_of_getElem? (i := 4) rfl)) (fun _ h9 => h9) rfl dX11_act_48 ?_
  refine lv_aload_n hx hb dX11_act_51 rfl (lv_at hl 1 rfl) ?_
  refine va_get (D := (dC, dI)) (ci := 11) (v := .int 0) (C := RX11) (T := TX11) (N := 20) hx hb hts inq_X11_act_c11 hown hK hP 0 rfl rfl 19 (by decide) (hts (.fieldLink RX11 416 "DiskEvidence" "actCount" "I") (List.mem_of_getElem? (i := 1) rfl)) (fun _ h9 => h9) rfl dX11_act_52 ?_
  refine lv_aload_n hx hb dX11_act_55 rfl (lv_at hl 1 rfl) ?_
  refine lv_aload_n hx hb dX11_act_56 rfl (lv_at hl 1 rfl) ?_
  refine va_get (D := (dC, dI)) (ci := 11) (v := .int 0) (C := RX11) (T := TX11) (N := 20) hx hb hts inq_X11_act_c11 hown hK hP 0 rfl rfl 19 (by decide) (hts (.fieldLink RX11 416 "DiskEvidence" "actCount" "I") (List.mem_of_getElem? (i := 1) rfl)) (fun _ h9 => h9) rfl dX11_act_57 ?_
  have hPc := hP.sub (ws' := [(h0, .inr (11, (fsX g))), ((g 17), .inl (cI, 300, (.inl (g_7)))), ((g 18), .inl (cJ, 100, (.inr (.inl (f18)))))]) [0, 1, 2] rfl
  have hDc := hD.sub (ws' := [(h0, .inr (11, (fsX g))), ((g 17), .inl (cI, 300, (.inl (g_7)))), ((g 18), .inl (cJ, 100, (.inr (.inl (f18)))))]) [0, 1, 2] (by decide) rfl
  have hKc := hK
  refine vp_callSl (va_Run.run (va_runV (As := [.int 0]) (rest := [.int 0, .ref (g 18)]) ⟨hx, hb, hml, hown, hts⟩ (c_X11_dueLink l dC dI cI cB cZ cJ cC cP cV cT cO H.size h0 g g_7 f18) (cwV 1 hts gq_X11_act_X11_dueLink_419 rfl rfl rfl (by decide +kernel) ⟨Nat.le_of_ble_eq_true rfl, Nat.le_of_ble_eq_true rfl⟩) ⟨fun a U g mk q => by obtain ⟨q0, q1, qP, qK, qD⟩ := q; exact ⟨q0, q1, qP, va_K.moved (u := U) (U := U.calling g mk a) (Vm.Alike.refl U.vm) qK, qD⟩, va_recv hKc hPc (ci := 11) (q0 := 0) rfl rfl, fun U hU hW => ⟨rfl, by rw [hU], by rw [hU]; exact hPc, va_K.moved hW.alike hKc, hDc.weaken (fun _ _ _ _ => trivial)⟩⟩ rfl rfl hl.1 rfl (lv_room (Nat.le_of_ble_eq_true rfl)) dX11_act_60 ⟨Nat.le_of_ble_eq_true rfl, Nat.le_of_ble_eq_true rfl⟩)) (fun r_8 hr_8 => ?_)
  refine va_last hx hb hK hP hD hS 2 3 rfl rfl (vp_in_nI (n := 0) (N := 100) (by decide) (by decide)) dX11_act_63 (fun H locs hP hD hS => ?_)
  obtain ⟨g_9, eg_9⟩ : ∃ y, y = vp_updL (f18) (0 : Int32).toNatClampNeg r_8 := ⟨_, rfl⟩
  rw [← eg_9] at hP hD
  have hP : va_P (dC, dI) vwCl [(h0, .inr (11, (fsX g))), ((g 17), .inl (cI, 300, (.inl (g_7)))), ((g 18), .inl (cJ, 100, (.inr (.inl (g_9)))))] H := hP
  have hD : va_D A [(h0, .inr (11, (fsX g))), ((g 17), .inl (cI, 300, (.inl (g_7)))), ((g 18), .inl (cJ, 100, (.inr (.inl (g_9)))))] := hD
  refine lv_aload_n hx hb dX11_act_64 rfl (lv_at hl 1 rfl) ?_
  refine lv_dup hx hb dX11_act_65 rfl ?_
  refine va_get (D := (dC, dI)) (ci := 11) (v := .int 0) (C := RX11) (T := TX11) (N := 20) hx hb hts inq_X11_act_c11 hown hK hP 0 rfl rfl 19 (by decide) (hts (.fieldLink RX11 416 "DiskEvidence" "actCount" "I") (List.mem_of_getElem? (i := 1) rfl)) (fun _ h9 => h9) rfl dX11_act_66 ?_
  refine lv_dup_x1 hx hb dX11_act_69 rfl rfl ?_
  refine lv_iconst (v := 1) hx hb dX11_act_70 (by decide) ?_
  refine lv_iadd hx hb dX11_act_71 ?_
  refine lv_topi (fun f_10 ef_10 => ?_)
  obtain rfl : (1 : Int32) = f_10 := (ef_10.trans (by decide)).symm
  refine va_put (D := (dC, dI)) (ci := 11) (v := .int 1) (ty := .int) (C := RX11) (T := TX11) (N := 20) hx hb hts inq_X11_act_c11 tyX11 tyX11_ok nmX11 hown hK hP hD hS 0 rfl rfl 19 (by decide) (hts (.fieldLink RX11 416 "DiskEvidence" "actCount" "I") (List.mem_of_getElem? (i := 1) rfl)) (fun _ h9 => h9) rfl (by decide +kernel) rfl rfl (Nat.le_of_ble_eq_true rfl) dX11_act_72 (fun H locs hP hD hS => ?_)
  have hP : va_P (dC, dI) vwCl [(h0, .inr (11, ((fsX g).set 19 (.int 1)))), ((g 17), .inl (cI, 300, (.inl (g_7)))), ((g 18), .inl (cJ, 100, (.inr (.inl (g_9)))))] H := hP
  have hD : va_D A [(h0, .inr (11, ((fsX g).set 19 (.int 1)))), ((g 17), .inl (cI, 300, (.inl (g_7)))), ((g 18), .inl (cJ, 100, (.inr (.inl (g_9)))))] := hD
  exact W.iret (v := 0) hx hb hr (fun t ht hW => ⟨⟨0, (), rfl, rfl, trivial⟩, hS.F ht⟩) hS.2.2 dX11_act_75
def dq_X12_act : List Cond := [.fieldLink RX12 366 "DiskEvidenceModel" "acts" "I", .fieldLink RX12 354 "DiskEvidenceModel" "actWho" "[I", .fieldLink RX12 357 "DiskEvidenceModel" "actWhat" "[I", .fieldLink RX12 360 "DiskEvidenceModel" "actAt" "[I", .fieldLink RX12 383 "DiskEvidenceModel" "now" "I", .fieldLink RX12 363 "DiskEvidenceModel" "actLink" "[J", .methodLink RX12 1171 yX12_linkOf, .instanceMethod yX12_linkOf, .selects RX12 yX12_linkOf yX12_linkOf, .initialized RX12]
def wq_X12_act : List Cond := .code yX12_act cX12_act 3 (some .int) :: (dq_X12_act ++ (wsX120 ++ (wq_X12_linkOf)))
theorem inq_X12_act_c12 : ∀ w ∈ wsX120, w ∈ wq_X12_act := fun w h => List.mem_cons_of_mem _ (List.mem_append_right _ (List.mem_append_left _ h))
theorem mq_X12_act_X12_linkOf : ∀ w ∈ wq_X12_linkOf, w ∈ wq_X12_act := fun w h => List.mem_cons_of_mem _ (List.mem_append_right _ (List.mem_append_right _ (h)))
theorem ga_X12_act : wq_X12_act.all goodWord = true := by decide +kernel
theorem gq_X12_act_X12_linkOf_1171 : GoodIn wq_X12_act (wsV RX12 1171 RX12 yX12_linkOf wq_X12_linkOf) := goodIn_app (goodIn_r _ [7, 8, 9, 10] (by decide +kernel) (by decide +kernel)) (goodIn_sub mq_X12_act_X12_linkOf ga_X12_linkOf)
theorem tdq_X12_act : ∀ w ∈ dq_X12_act, w ∈ lw_tbl := fun w h => (goodIn_r (big := lw_tbl) dq_X12_act [2416, 2417, 2418, 2419, 2251, 2420, 3704, 3706, 288, 296] (by decide +kernel) (by decide +kernel) w h).1
theorem tq_X12_act : ∀ w ∈ wq_X12_act, w ∈ lw_tbl := fun w h => (List.mem_cons.mp h).elim (fun e => by rw [e]; exact List.mem_of_getElem? (i := 3703) (by decide +kernel)) (fun h => (List.mem_append.mp h).elim (fun h => tdq_X12_act w h) (fun h => (List.mem_append.mp h).elim (fun h => nX12 w h) (fun h => tq_X12_linkOf w h)))
set_option maxHeartbeats 40000000 in
set_option maxRecDepth 100000 in
theorem c_X12_act (l : Launch) (dC : Nat → ClassId) (dI : Nat → Nat → Nat) (cI cB cZ cJ cC cP cV cT cO : ClassId) (sz : Nat) (h0 : Nat) (g : Nat → Nat) (f8 f9 f0 : Nat → Int32) (f1 : Nat → Int64) (p0 : Int32) (p1 : Int32) : Met l yX12_act wq_X12_act ({ frames := 1, cells := 0, slots := 0, locals := 23 }) (va_Pc [.ref h0, .int p0, .int p1] (fun U => U.heap.size = sz ∧ va_P (dC, dI) vwCl [(h0, .inr (12, (fsM g))), ((g 168), .inl (cI, 100, (.inl (f8)))), ((g 169), .inl (cI, 100, (.inl (f9)))), ((g 170), .inl (cI, 100, (.inl (f0)))), ((g 171), .inl (cJ, 100, (.inr (.inl (f1)))))] U.heap ∧ va_K (dC, dI) vwCl [(cI, .int), (cB, .byte), (cZ, .boolean), (cJ, .long), (cC, .char), (cP, .object "DiskEvidence$Picture"), (cV, .object "DiskEvidence$Volume"), (cT, .object "DiskEvidence$Tree"), (cO, .object "DiskEvidence$Opening")] U ∧ va_D (fun _ => True) [(h0, .inr (12, (fsM g))), ((g 168), .inl (cI, 100, (.inl (f8)))), ((g 169), .inl (cI, 100, (.inl (f9)))), ((g 170), .inl (cI, 100, (.inl (f0)))), ((g 171), .inl (cJ, 100, (.inr (.inl (f1)))))])) (va_Qi (fun (r : Int32) (_ : Unit) => r = 0) (fun _ _ => True) (va_A [(h0, .inr (12, (fsM g))), ((g 168), .inl (cI, 100, (.inl (f8)))), ((g 169), .inl (cI, 100, (.inl (f9)))), ((g 170), .inl (cI, 100, (.inl (f0)))), ((g 171), .inl (cJ, 100, (.inr (.inl (f1)))))] sz)) 0 0 (va_A [(h0, .inr (12, (fsM g))), ((g 168), .inl (cI, 100, (.inl (f8)))), ((g 169), .inl (cI, 100, (.inl (f9)))), ((g 170), .inl (cI, 100, (.inl (f0)))), ((g 171), .inl (cJ, 100, (.inr (.inl (f1)))))] sz) := by
  refine Met.ofW (cc := cX12_act) (maxL := 3) (ret := (some .int)) (by decide) rfl ?_
  intro p e s m args below meth c s₁ B hml hv
  obtain ⟨rfl, hsz, hP, hK, hD0⟩ := hv
  have hx := B.exec
  have hb := B.bytes
  have hr := B.returns
  have hts := atoms_spec (ws := wq_X12_act) B.pre
  have hown : s.vm.findClass RX12 = some m.cls := findClass_of_methodNamed B.named
  have hlocks := B.notSynchronized
  subst hsz
  have hD := hD0.self (sz := s.heap.size)
  generalize hAe : va_A [(h0, .inr (12, (fsM g))), ((g 168), .inl (cI, 100, (.inl (f8)))), ((g 169), .inl (cI, 100, (.inl (f9)))), ((g 170), .inl (cI, 100, (.inl (f0)))), ((g 171), .inl (cJ, 100, (.inr (.inl (f1)))))] s.heap.size = A at hD ⊢
  have hA : ∀ q : Nat, s.heap.size ≤ q → A q := fun q h => by rw [← hAe]; exact Or.inr h
  have hS : va_S A s.heap s.heap [] := va_S.rf
  have hl := lv_entry ([.ref h0, .int p0, .int p1]) (n := 3) (Nat.le_of_ble_eq_true rfl)
  rw [lg_entry_eq]
  generalize (lg_sl ([.ref h0, .int p0, .int p1]) ++ List.replicate (3 - (lg_sl ([.ref h0, .int p0, .int p1])).length) Slot.unset).toArray = ls at hl ⊢
  have hl : lv_has ls 3 [(0, .ref h0), (1, .int p0), (2, .int p1)] := hl
  refine lv_aload_n hx hb dX12_act_0 rfl (lv_at hl 0 rfl) ?_
  refine va_get (D := (dC, dI)) (ci := 12) (v := .int 0) (C := RX12) (T := TX12) (N := 172) hx hb hts inq_X12_act_c12 hown hK hP 0 rfl rfl 167 (by decide) (hts (.fieldLink RX12 366 "DiskEvidenceModel" "acts" "I") (List.mem_of_getElem? (i := 1) rfl)) (fun _ h9 => h9) rfl dX12_act_1 ?_
  refine lv_bipush (v := 100) hx hb dX12_act_4 (by decide) ?_
  refine lv_icmp_ne (tgt := 12) hx hb dX12_act_6 (by decide) (fun _ => ?_) (fun c_1 => absurd c_1 (by decide))
  refine lv_aload_n hx hb dX12_act_12 rfl (lv_at hl 0 rfl) ?_
  refine va_get (D := (dC, dI)) (ci := 12) (v := .ref (g 168)) (C := RX12) (T := TX12) (N := 172) hx hb hts inq_X12_act_c12 hown hK hP 0 rfl rfl 168 (by decide) (hts (.fieldLink RX12 354 "DiskEvidenceModel" "actWho" "[I") (List.mem_of_getElem? (i := 2) rfl)) (fun _ h9 => h9) rfl dX12_act_13 ?_
  refine lv_aload_n hx hb dX12_act_16 rfl (lv_at hl 0 rfl) ?_
  refine va_get (D := (dC, dI)) (ci := 12) (v := .int 0) (C := RX12) (T := TX12) (N := 172) hx hb hts inq_X12_act_c12 hown hK hP 0 rfl rfl 167 (by decide) (hts (.fieldLink RX12 366 "DiskEvidenceModel" "acts" "I") (List.mem_of_getElem? (i := 1) rfl)) (fun _ h9 => h9) rfl dX12_act_17 ?_
  refine lv_iload_n hx hb dX12_act_20 rfl (lv_at hl 1 rfl) ?_
  refine va_iast hx hb hK hP hD hS 1 0 rfl rfl (vp_in_nI (n := 0) (N := 100) (by decide) (by decide)) dX12_act_21 (fun H locs hP hD hS => ?_)
  obtain ⟨g_2, eg_2⟩ : ∃ y, y = upd (f8) (0 : Int32).toNatClampNeg p0 := ⟨_, rfl⟩
  rw [← eg_2] at hP hD
  have hP : va_P (dC, dI) vwCl [(h0, .inr (12, (fsM g))), ((g 168), .inl (cI, 100, (.inl (g_2)))), ((g 169), .inl (cI, 100, (.inl (f9)))), ((g 170), .inl (cI, 100, (.inl (f0)))), ((g 171), .inl (cJ, 100, (.inr (.inl (f1)))))] H := hP
  have hD : va_D A [(h0, .inr (12, (fsM g))), ((g 168), .inl (cI, 100, (.inl (g_2)))), ((g 169), .inl (cI, 100, (.inl (f9)))), ((g 170), .inl (cI, 100, (.inl (f0)))), ((g 171), .inl (cJ, 100, (.inr (.inl (f1)))))] := hD
  refine lv_aload_n hx hb dX12_act_22 rfl (lv_at hl 0 rfl) ?_
  refine va_get (D := (dC, dI)) (ci := 12) (v := .ref (g 169)) (C := RX12) (T := TX12) (N := 172) hx hb hts inq_X12_act_c12 hown hK hP 0 rfl rfl 169 (by decide) (hts (.fieldLink RX12 357 "DiskEvidenceModel" "actWhat" "[I") (List.mem_of_getElem? (i := 3) rfl)) (fun _ h9 => h9) rfl dX12_act_23 ?_
  refine lv_aload_n hx hb dX12_act_26 rfl (lv_at hl 0 rfl) ?_
  refine va_get (D := (dC, dI)) (ci := 12) (v := .int 0) (C := RX12) (T := TX12) (N := 172) hx hb hts inq_X12_act_c12 hown hK hP 0 rfl rfl 167 (by decide) (hts (.fieldLink RX12 366 "DiskEvidenceModel" "acts" "I") (List.mem_of_getElem? (i := 1) rfl)) (fun _ h9 => h9) rfl dX12_act_27 ?_
  refine lv_iload_n hx hb dX12_act_30 rfl (lv_at hl 2 rfl) ?_
  refine va_iast hx hb hK hP hD hS 2 0 rfl rfl (vp_in_nI (n := 0) (N := 100) (by decide) (by decide)) dX12_act_31 (fun H locs hP hD hS => ?_)
  obtain ⟨g_3, eg_3⟩ : ∃ y, y = upd (f9) (0 : Int32).toNatClampNeg p1 := ⟨_, rfl⟩
  rw [← eg_3] at hP hD
  have hP : va_P (dC, dI) vwCl [(h0, .inr (12, (fsM g))), ((g 168), .inl (cI, 100, (.inl (g_2)))), ((g 169), .inl (cI, 100, (.inl (g_3)))), ((g 170), .inl (cI, 100, (.inl (f0)))), ((g 171), .inl (cJ, 100, (.inr (.inl (f1)))))] H := hP
  have hD : va_D A [(h0, .inr (12, (fsM g))), ((g 168), .inl (cI, 100, (.inl (g_2)))), ((g 169), .inl (cI, 100, (.inl (g_3)))), ((g 170), .inl (cI, 100, (.inl (f0)))), ((g 171), .inl (cJ, 100, (.inr (.inl (f1)))))] := hD
  refine lv_aload_n hx hb dX12_act_32 rfl (lv_at hl 0 rfl) ?_
  refine va_get (D := (dC, dI)) (ci := 12) (v := .ref (g 170)) (C := RX12) (T := TX12) (N := 172) hx hb hts inq_X12_act_c12 hown hK hP 0 rfl rfl 170 (by decide) (hts (.fieldLink RX12 360 "DiskEvidenceModel" "actAt" "[I") (List.mem_of_getElem? (i := 4) rfl)) (fun _ h9 => h9) rfl dX12_act_33 ?_
  refine lv_aload_n hx hb dX12_act_36 rfl (lv_at hl 0 rfl) ?_
  refine va_get (D := (dC, dI)) (ci := 12) (v := .int 0) (C := RX12) (T := TX12) (N := 172) hx hb hts inq_X12_act_c12 hown hK hP 0 rfl rfl 167 (by decide) (hts (.fieldLink RX12 366 "DiskEvidenceModel" "acts" "I") (List.mem_of_getElem? (i := 1) rfl)) (fun _ h9 => h9) rfl dX12_act_37 ?_
  refine lv_aload_n hx hb dX12_act_40 rfl (lv_at hl 0 rfl) ?_
  refine va_get (D := (dC, dI)) (ci := 12) (v := .int 0) (C := RX12) (T := TX12) (N := 172) hx hb hts inq_X12_act_c12 hown hK hP 0 rfl rfl 2 (by decide) (hts (.fieldLink RX12 383 "DiskEvidenceModel" "now" "I") (List.mem_of_getElem? (i := 5) rfl)) (fun _ h9 => h9) rfl dX12_act_41 ?_
  refine va_iast hx hb hK hP hD hS 3 0 rfl rfl (vp_in_nI (n := 0) (N := 100) (by decide) (by decide)) dX12_act_44 (fun H locs hP hD hS => ?_)
  obtain ⟨g_4, eg_4⟩ : ∃ y, y = upd (f0) (0 : Int32).toNatClampNeg 0 := ⟨_, rfl⟩
  rw [← eg_4] at hP hD
  have hP : va_P (dC, dI) vwCl [(h0, .inr (12, (fsM g))), ((g 168), .inl (cI, 100, (.inl (g_2)))), ((g 169), .inl (cI, 100, (.inl (g_3)))), ((g 170), .inl (cI, 100, (.inl (g_4)))), ((g 171), .inl (cJ, 100, (.inr (.inl (f1)))))] H := hP
  have hD : va_D A [(h0, .inr (12, (fsM g))), ((g 168), .inl (cI, 100, (.inl (g_2)))), ((g 169), .inl (cI, 100, (.inl (g_3)))), ((g 170), .inl (cI, 100, (.inl (g_4)))), ((g 171), .inl (cJ, 100, (.inr (.inl (f1)))))] := hD
  refine lv_aload_n hx hb dX12_act_45 rfl (lv_at hl 0 rfl) ?_
  refine va_get (D := (dC, dI)) (ci := 12) (v := .ref (g 171)) (C := RX12) (T := TX12) (N := 172) hx hb hts inq_X12_act_c12 hown hK hP 0 rfl rfl 171 (by decide) (hts (.fieldLink RX12 363 "DiskEvidenceModel" "actLink" "[J") (List.mem_of_getElem? (i := 6) rfl)) (fun _ h9 => h9) rfl dX12_act_46 ?_
  refine lv_aload_n hx hb dX12_act_49 rfl (lv_at hl 0 rfl) ?_
  refine va_get (D := (dC, dI)) (ci := 12) (v := .int 0) (C := RX12) (T := TX12) (N := 172) hx hb hts inq_X12_act_c12 hown hK hP 0 rfl rfl 167 (by decide) (hts (.fieldLink RX12 366 "DiskEvidenceModel" "acts" "I") (List.mem_of_getElem? (i := 1) rfl)) (fun _ h9 => h9) rfl dX12_act_50 ?_
  refine lv_aload_n hx hb dX12_act_53 rfl (lv_at hl 0 rfl) ?_
  refine lv_aload_n hx hb dX12_act_54 rfl (lv_at hl 0 rfl) ?_
  refine va_get (D := (dC, dI)) (ci := 12) (v := .int 0) (C := RX12) (T := TX12) (N := 172) hx hb hts inq_X12_act_c12 hown hK hP 0 rfl rfl 167 (by decide) (hts (.fieldLink RX12 366 "DiskEvidenceModel" "acts" "I") (List.mem_of_getElem? (i := 1) rfl)) (fun _ h9 => h9) rfl dX12_act_55 ?_
  have hPc := hP.sub (ws' := [(h0, .inr (12, (fsM g))), ((g 168), .inl (cI, 100, (.inl (g_2)))), ((g 169), .inl (cI, 100, (.inl (g_3)))), ((g 170), .inl (cI, 100, (.inl (g_4)))), ((g 171), .inl (cJ, 100, (.inr (.inl (f1)))))]) [0, 1, 2, 3, 4] rfl
  have hDc := hD.sub (ws' := [(h0, .inr (12, (fsM g))), ((g 168), .inl (cI, 100, (.inl (g_2)))), ((g 169), .inl (cI, 100, (.inl (g_3)))), ((g 170), .inl (cI, 100, (.inl (g_4)))), ((g 171), .inl (cJ, 100, (.inr (.inl (f1)))))]) [0, 1, 2, 3, 4] (by decide) rfl
  have hKc := hK
  refine vp_callSl (va_Run.run (va_runV (As := [.int 0]) (rest := [.int 0, .ref (g 171)]) ⟨hx, hb, hml, hown, hts⟩ (c_X12_linkOf l dC dI cI cB cZ cJ cC cP cV cT cO H.size h0 g g_2 g_3 g_4 f1) (cwV 1 hts gq_X12_act_X12_linkOf_1171 rfl rfl rfl (by decide +kernel) ⟨Nat.le_of_ble_eq_true rfl, Nat.le_of_ble_eq_true rfl⟩) ⟨fun a U g mk q => by obtain ⟨q0, q1, qP, qK, qD⟩ := q; exact ⟨q0, q1, qP, va_K.moved (u := U) (U := U.calling g mk a) (Vm.Alike.refl U.vm) qK, qD⟩, va_recv hKc hPc (ci := 12) (q0 := 0) rfl rfl, fun U hU hW => ⟨rfl, by rw [hU], by rw [hU]; exact hPc, va_K.moved hW.alike hKc, hDc.weaken (fun _ _ _ _ => trivial)⟩⟩ rfl rfl hl.1 rfl (lv_room (Nat.le_of_ble_eq_true rfl)) dX12_act_58 ⟨Nat.le_of_ble_eq_true rfl, Nat.le_of_ble_eq_true rfl⟩)) (fun r_5 hr_5 => ?_)
  refine va_last hx hb hK hP hD hS 4 3 rfl rfl (vp_in_nI (n := 0) (N := 100) (by decide) (by decide)) dX12_act_61 (fun H locs hP hD hS => ?_)
  obtain ⟨g_6, eg_6⟩ : ∃ y, y = vp_updL (f1) (0 : Int32).toNatClampNeg r_5 := ⟨_, rfl⟩
  rw [← eg_6] at hP hD
  have hP : va_P (dC, dI) vwCl [(h0, .inr (12, (fsM g))), ((g 168), .inl (cI, 100, (.inl (g_2)))), ((g 169), .inl (cI, 100, (.inl (g_3)))), ((g 170), .inl (cI, 100, (.inl (g_4)))), ((g 171), .inl (cJ, 100, (.inr (.inl (g_6)))))] H := hP
  have hD : va_D A [(h0, .inr (12, (fsM g))), ((g 168), .inl (cI, 100, (.inl (g_2)))), ((g 169), .inl (cI, 100, (.inl (g_3)))), ((g 170), .inl (cI, 100, (.inl (g_4)))), ((g 171), .inl (cJ, 100, (.inr (.inl (g_6)))))] := hD
  refine lv_aload_n hx hb dX12_act_62 rfl (lv_at hl 0 rfl) ?_
  refine lv_dup hx hb dX12_act_63 rfl ?_
  refine va_get (D := (dC, dI)) (ci := 12) (v := .int 0) (C := RX12) (T := TX12) (N := 172) hx hb hts inq_X12_act_c12 hown hK hP 0 rfl rfl 167 (by decide) (hts (.fieldLink RX12 366 "DiskEvidenceModel" "acts" "I") (List.mem_of_getElem? (i := 1) rfl)) (fun _ h9 => h9) rfl dX12_act_64 ?_
  refine lv_iconst (v := 1) hx hb dX12_act_67 (by decide) ?_
  refine lv_iadd hx hb dX12_act_68 ?_
  refine lv_topi (fun f_7 ef_7 => ?_)
  obtain rfl : (1 : Int32) = f_7 := (ef_7.trans (by decide)).symm
  refine va_put (D := (dC, dI)) (ci := 12) (v := .int 1) (ty := .int) (C := RX12) (T := TX12) (N := 172) hx hb hts inq_X12_act_c12 tyX12 tyX12_ok nmX12 hown hK hP hD hS 0 rfl rfl 167 (by decide) (hts (.fieldLink RX12 366 "DiskEvidenceModel" "acts" "I") (List.mem_of_getElem? (i := 1) rfl)) (fun _ h9 => h9) rfl (by decide +kernel) rfl rfl (Nat.le_of_ble_eq_true rfl) dX12_act_69 (fun H locs hP hD hS => ?_)
  have hP : va_P (dC, dI) vwCl [(h0, .inr (12, ((fsM g).set 167 (.int 1)))), ((g 168), .inl (cI, 100, (.inl (g_2)))), ((g 169), .inl (cI, 100, (.inl (g_3)))), ((g 170), .inl (cI, 100, (.inl (g_4)))), ((g 171), .inl (cJ, 100, (.inr (.inl (g_6)))))] H := hP
  have hD : va_D A [(h0, .inr (12, ((fsM g).set 167 (.int 1)))), ((g 168), .inl (cI, 100, (.inl (g_2)))), ((g 169), .inl (cI, 100, (.inl (g_3)))), ((g 170), .inl (cI, 100, (.inl (g_4)))), ((g 171), .inl (cJ, 100, (.inr (.inl (g_6)))))] := hD
  refine lv_aload_n hx hb dX12_act_72 rfl (lv_at hl 0 rfl) ?_
  refine va_get (D := (dC, dI)) (ci := 12) (v := .int 1) (C := RX12) (T := TX12) (N := 172) hx hb hts inq_X12_act_c12 hown hK hP 0 rfl rfl 167 (by decide) (hts (.fieldLink RX12 366 "DiskEvidenceModel" "acts" "I") (List.mem_of_getElem? (i := 1) rfl)) (fun _ h9 => h9) rfl dX12_act_73 ?_
  refine lv_iconst (v := 1) hx hb dX12_act_76 (by decide) ?_
  refine lv_isub hx hb dX12_act_77 ?_
  refine lv_topi (fun f_8 ef_8 => ?_)
  obtain rfl : (0 : Int32) = f_8 := (ef_8.trans (by decide)).symm
  exact W.iret (v := 0) hx hb hr (fun t ht hW => ⟨⟨0, (), rfl, rfl, trivial⟩, hS.F ht⟩) hS.2.2 dX12_act_78
def dq_X11_link : List Cond := [.fieldLink RX11 416 "DiskEvidence" "actCount" "I"]
def wq_X11_link : List Cond := .code yX11_link cX11_link 2 (some .long) :: (dq_X11_link ++ (wsX110))
theorem inq_X11_link_c11 : ∀ w ∈ wsX110, w ∈ wq_X11_link := fun w h => List.mem_cons_of_mem _ (List.mem_append_right _ (h))
theorem ga_X11_link : wq_X11_link.all goodWord = true := by decide +kernel
theorem tdq_X11_link : ∀ w ∈ dq_X11_link, w ∈ lw_tbl := fun w h => (goodIn_r (big := lw_tbl) dq_X11_link [605] (by decide +kernel) (by decide +kernel) w h).1
theorem tq_X11_link : ∀ w ∈ wq_X11_link, w ∈ lw_tbl := fun w h => (List.mem_cons.mp h).elim (fun e => by rw [e]; exact List.mem_of_getElem? (i := 2226) (by decide +kernel)) (fun h => (List.mem_append.mp h).elim (fun h => tdq_X11_link w h) (fun h => nX11 w h))
set_option maxHeartbeats 40000000 in
set_option maxRecDepth 100000 in
theorem c_X11_link (l : Launch) (dC : Nat → ClassId) (dI : Nat → Nat → Nat) (cI cB cZ cJ cC cP cV cT cO : ClassId) (sz : Nat) (h0 : Nat) (g : Nat → Nat)  (p0 : Int32) : Met l yX11_link wq_X11_link ({ frames := 0, cells := 0, slots := 0, locals := 0 }) (va_Pc [.ref h0, .int p0] (fun U => U.heap.size = sz ∧ va_P (dC, dI) vwCl [(h0, .inr (11, (fsX g)))] U.heap ∧ va_K (dC, dI) vwCl [(cI, .int), (cB, .byte), (cZ, .boolean), (cJ, .long), (cC, .char), (cP, .object "DiskEvidence$Picture"), (cV, .object "DiskEvidence$Volume"), (cT, .object "DiskEvidence$Tree"), (cO, .object "DiskEvidence$Opening")] U ∧ va_D (fun _ => True) [(h0, .inr (11, (fsX g)))])) (vp_Sl (fun r : Int64 => r = 0)) 0 0 (fun _ => False) := by
  refine Met.ofW (cc := cX11_link) (maxL := 2) (ret := (some .long)) (by decide) rfl ?_
  intro p e s m args below meth c s₁ B hml hv
  obtain ⟨rfl, hsz, hP, hK, hD0⟩ := hv
  have hx := B.exec
  have hb := B.bytes
  have hr := B.returns
  have hts := atoms_spec (ws := wq_X11_link) B.pre
  have hown : s.vm.findClass RX11 = some m.cls := findClass_of_methodNamed B.named
  have hlocks := B.notSynchronized
  subst hsz
  have hD := hD0.self (sz := s.heap.size)
  generalize hAe : va_A [(h0, .inr (11, (fsX g)))] s.heap.size = A at hD ⊢
  have hA : ∀ q : Nat, s.heap.size ≤ q → A q := fun q h => by rw [← hAe]; exact Or.inr h
  have hS : va_S A s.heap s.heap [] := va_S.rf
  have hl := lv_entry ([.ref h0, .int p0]) (n := 2) (Nat.le_of_ble_eq_true rfl)
  rw [lg_entry_eq]
  generalize (lg_sl ([.ref h0, .int p0]) ++ List.replicate (2 - (lg_sl ([.ref h0, .int p0])).length) Slot.unset).toArray = ls at hl ⊢
  have hl : lv_has ls 2 [(0, .ref h0), (1, .int p0)] := hl
  refine lv_iload_n hx hb dX11_link_0 rfl (lv_at hl 1 rfl) ?_
  refine lv_if_lt (tgt := 12) hx hb dX11_link_1 (by decide) (fun c_1 => ?_) (fun c_1 => ?_)
  · refine lv_lconst (v := 0) hx hb dX11_link_12 (by decide) ?_
    refine lv_goto (tgt := 22) hx hb dX11_link_13 (by decide) ?_
    exact W.lret (v := 0) hx hb hr (fun t ht hW => ⟨0, rfl, rfl, ht⟩) (fun _ h => by cases h) dX11_link_22
  · refine lv_iload_n hx hb dX11_link_4 rfl (lv_at hl 1 rfl) ?_
    refine lv_aload_n hx hb dX11_link_5 rfl (lv_at hl 0 rfl) ?_
    refine va_get (D := (dC, dI)) (ci := 11) (v := .int 0) (C := RX11) (T := TX11) (N := 20) hx hb hts inq_X11_link_c11 hown hK hP 0 rfl rfl 19 (by decide) (hts (.fieldLink RX11 416 "DiskEvidence" "actCount" "I") (List.mem_of_getElem? (i := 1) rfl)) (fun _ h9 => h9) rfl dX11_link_6 ?_
    refine lv_icmp_lt (tgt := 16) hx hb dX11_link_9 (by decide) (fun c_2 => absurd c_2 c_1) (fun _ => ?_)
    refine lv_lconst (v := 0) hx hb dX11_link_12 (by decide) ?_
    refine lv_goto (tgt := 22) hx hb dX11_link_13 (by decide) ?_
    exact W.lret (v := 0) hx hb hr (fun t ht hW => ⟨0, rfl, rfl, ht⟩) (fun _ h => by cases h) dX11_link_22
def dq_X12_link : List Cond := [.fieldLink RX12 366 "DiskEvidenceModel" "acts" "I", .methodLink RX12 372 yX12_in, .static yX12_in, .initialized RX12]
def wq_X12_link : List Cond := .code yX12_link cX12_link 2 (some .long) :: (dq_X12_link ++ (wsX120 ++ (wq_X12_in)))
theorem inq_X12_link_c12 : ∀ w ∈ wsX120, w ∈ wq_X12_link := fun w h => List.mem_cons_of_mem _ (List.mem_append_right _ (List.mem_append_left _ h))
theorem mq_X12_link_X12_in : ∀ w ∈ wq_X12_in, w ∈ wq_X12_link := fun w h => List.mem_cons_of_mem _ (List.mem_append_right _ (List.mem_append_right _ (h)))
theorem ga_X12_link : wq_X12_link.all goodWord = true := by decide +kernel
theorem gq_X12_link_X12_in_372 : GoodIn wq_X12_link (va_wsS RX12 372 yX12_in wq_X12_in) := goodIn_app (goodIn_r _ [2, 3, 4] (by decide +kernel) (by decide +kernel)) (goodIn_sub mq_X12_link_X12_in ga_X12_in)
theorem tdq_X12_link : ∀ w ∈ dq_X12_link, w ∈ lw_tbl := fun w h => (goodIn_r (big := lw_tbl) dq_X12_link [2416, 2772, 2773, 296] (by decide +kernel) (by decide +kernel) w h).1
theorem tq_X12_link : ∀ w ∈ wq_X12_link, w ∈ lw_tbl := fun w h => (List.mem_cons.mp h).elim (fun e => by rw [e]; exact List.mem_of_getElem? (i := 3714) (by decide +kernel)) (fun h => (List.mem_append.mp h).elim (fun h => tdq_X12_link w h) (fun h => (List.mem_append.mp h).elim (fun h => nX12 w h) (fun h => tq_X12_in w h)))
set_option maxHeartbeats 40000000 in
set_option maxRecDepth 100000 in
theorem c_X12_link (l : Launch) (dC : Nat → ClassId) (dI : Nat → Nat → Nat) (cI cB cZ cJ cC cP cV cT cO : ClassId) (sz : Nat) (h0 : Nat) (g : Nat → Nat)  (p0 : Int32) : Met l yX12_link wq_X12_link ({ frames := 1, cells := 0, slots := 0, locals := 25 }) (va_Pc [.ref h0, .int p0] (fun U => U.heap.size = sz ∧ va_P (dC, dI) vwCl [(h0, .inr (12, (fsM g)))] U.heap ∧ va_K (dC, dI) vwCl [(cI, .int), (cB, .byte), (cZ, .boolean), (cJ, .long), (cC, .char), (cP, .object "DiskEvidence$Picture"), (cV, .object "DiskEvidence$Volume"), (cT, .object "DiskEvidence$Tree"), (cO, .object "DiskEvidence$Opening")] U ∧ va_D (fun _ => True) [(h0, .inr (12, (fsM g)))])) (vp_Sl (fun r : Int64 => r = 0)) 0 0 (fun _ => False) := by
  refine Met.ofW (cc := cX12_link) (maxL := 2) (ret := (some .long)) (by decide) rfl ?_
  intro p e s m args below meth c s₁ B hml hv
  obtain ⟨rfl, hsz, hP, hK, hD0⟩ := hv
  have hx := B.exec
  have hb := B.bytes
  have hr := B.returns
  have hts := atoms_spec (ws := wq_X12_link) B.pre
  have hown : s.vm.findClass RX12 = some m.cls := findClass_of_methodNamed B.named
  have hlocks := B.notSynchronized
  subst hsz
  have hD := hD0.self (sz := s.heap.size)
  generalize hAe : va_A [(h0, .inr (12, (fsM g)))] s.heap.size = A at hD ⊢
  have hA : ∀ q : Nat, s.heap.size ≤ q → A q := fun q h => by rw [← hAe]; exact Or.inr h
  have hS : va_S A s.heap s.heap [] := va_S.rf
  have hl := lv_entry ([.ref h0, .int p0]) (n := 2) (Nat.le_of_ble_eq_true rfl)
  rw [lg_entry_eq]
  generalize (lg_sl ([.ref h0, .int p0]) ++ List.replicate (2 - (lg_sl ([.ref h0, .int p0])).length) Slot.unset).toArray = ls at hl ⊢
  have hl : lv_has ls 2 [(0, .ref h0), (1, .int p0)] := hl
  refine lv_iload_n hx hb dX12_link_0 rfl (lv_at hl 1 rfl) ?_
  refine lv_i2l hx hb dX12_link_1 rfl ?_
  refine lv_lconst (v := 0) hx hb dX12_link_2 (by decide) ?_
  refine lv_aload_n hx hb dX12_link_3 rfl (lv_at hl 0 rfl) ?_
  refine va_get (D := (dC, dI)) (ci := 12) (v := .int 0) (C := RX12) (T := TX12) (N := 172) hx hb hts inq_X12_link_c12 hown hK hP 0 rfl rfl 167 (by decide) (hts (.fieldLink RX12 366 "DiskEvidenceModel" "acts" "I") (List.mem_of_getElem? (i := 1) rfl)) (fun _ h9 => h9) rfl dX12_link_4 ?_
  refine lv_iconst (v := 1) hx hb dX12_link_7 (by decide) ?_
  refine lv_isub hx hb dX12_link_8 ?_
  refine lv_topi (fun f_1 ef_1 => ?_)
  obtain rfl : (-1 : Int32) = f_1 := (ef_1.trans (by decide)).symm
  refine lv_i2l (v := (-1)) hx hb dX12_link_9 (by decide) ?_
  refine vp_callSi (va_Run.run (va_runS (As := [.long p0.toInt64, .long 0, .long (-1)]) (rest := []) ⟨hx, hb, hml, hown, hts⟩ (c_X12_in l p0.toInt64 0 (-1)) (va_cwS 3 hts gq_X12_link_X12_in_372 rfl rfl rfl (by decide +kernel) ⟨Nat.le_of_ble_eq_true rfl, Nat.le_of_ble_eq_true rfl⟩) ⟨fun a U g mk q => q, fun U hU hW => ⟨rfl, trivial⟩⟩ rfl rfl hl.1 rfl (lv_room (Nat.le_of_ble_eq_true rfl)) dX12_link_10 ⟨Nat.le_of_ble_eq_true rfl, Nat.le_of_ble_eq_true rfl⟩)) (fun r_2 hr_2 => ?_)
  rcases hr_2 with ⟨rfl, hlo_3, hhi_3⟩ | ⟨rfl, hno_3⟩
  · exact absurd (Int64.le_trans hlo_3 hhi_3) (by decide)
  · refine lv_if_eq (tgt := 25) hx hb dX12_link_13 (by decide) (fun _ => ?_) (fun c_4 => absurd (by decide) c_4)
    refine lv_lconst (v := 0) hx hb dX12_link_25 (by decide) ?_
    exact W.lret (v := 0) hx hb hr (fun t ht hW => ⟨0, rfl, rfl, ht⟩) (fun _ h => by cases h) dX12_link_26
def dq_X11_chain : List Cond := [.fieldLink RX11 416 "DiskEvidence" "actCount" "I"]
def wq_X11_chain : List Cond := .code yX11_chain cX11_chain 2 (some .int) :: (dq_X11_chain ++ (wsX110))
theorem inq_X11_chain_c11 : ∀ w ∈ wsX110, w ∈ wq_X11_chain := fun w h => List.mem_cons_of_mem _ (List.mem_append_right _ (h))
theorem ga_X11_chain : wq_X11_chain.all goodWord = true := by decide +kernel
theorem tdq_X11_chain : ∀ w ∈ dq_X11_chain, w ∈ lw_tbl := fun w h => (goodIn_r (big := lw_tbl) dq_X11_chain [605] (by decide +kernel) (by decide +kernel) w h).1
theorem tq_X11_chain : ∀ w ∈ wq_X11_chain, w ∈ lw_tbl := fun w h => (List.mem_cons.mp h).elim (fun e => by rw [e]; exact List.mem_of_getElem? (i := 2234) (by decide +kernel)) (fun h => (List.mem_append.mp h).elim (fun h => tdq_X11_chain w h) (fun h => nX11 w h))
set_option maxHeartbeats 40000000 in
set_option maxRecDepth 100000 in
theorem c_X11_chain (l : Launch) (dC : Nat → ClassId) (dI : Nat → Nat → Nat) (cI cB cZ cJ cC cP cV cT cO : ClassId) (sz : Nat) (h0 : Nat) (g : Nat → Nat)   : Met l yX11_chain wq_X11_chain ({ frames := 0, cells := 0, slots := 0, locals := 0 }) (va_Pc [.ref h0] (fun U => U.heap.size = sz ∧ va_P (dC, dI) vwCl [(h0, .inr (11, (fsX g)))] U.heap ∧ va_K (dC, dI) vwCl [(cI, .int), (cB, .byte), (cZ, .boolean), (cJ, .long), (cC, .char), (cP, .object "DiskEvidence$Picture"), (cV, .object "DiskEvidence$Volume"), (cT, .object "DiskEvidence$Tree"), (cO, .object "DiskEvidence$Opening")] U ∧ va_D (fun _ => True) [(h0, .inr (11, (fsX g)))])) (vp_Si (fun r : Int32 => r = (-1))) 0 0 (fun _ => False) := by
  refine Met.ofW (cc := cX11_chain) (maxL := 2) (ret := (some .int)) (by decide) rfl ?_
  intro p e s m args below meth c s₁ B hml hv
  obtain ⟨rfl, hsz, hP, hK, hD0⟩ := hv
  have hx := B.exec
  have hb := B.bytes
  have hr := B.returns
  have hts := atoms_spec (ws := wq_X11_chain) B.pre
  have hown : s.vm.findClass RX11 = some m.cls := findClass_of_methodNamed B.named
  have hlocks := B.notSynchronized
  subst hsz
  have hD := hD0.self (sz := s.heap.size)
  generalize hAe : va_A [(h0, .inr (11, (fsX g)))] s.heap.size = A at hD ⊢
  have hA : ∀ q : Nat, s.heap.size ≤ q → A q := fun q h => by rw [← hAe]; exact Or.inr h
  have hS : va_S A s.heap s.heap [] := va_S.rf
  have hl := lv_entry ([.ref h0]) (n := 2) (Nat.le_of_ble_eq_true rfl)
  rw [lg_entry_eq]
  generalize (lg_sl ([.ref h0]) ++ List.replicate (2 - (lg_sl ([.ref h0])).length) Slot.unset).toArray = ls at hl ⊢
  have hl : lv_has ls 2 [(0, .ref h0)] := hl
  refine lv_iconst (v := 0) hx hb dX11_chain_0 (by decide) ?_
  refine lv_istore_n (lv' := [(1, .int 0), (0, .ref h0)]) hx hb dX11_chain_1 rfl hl (by decide) rfl (fun ls hl => ?_)
  refine lv_iload_n hx hb dX11_chain_2 rfl (lv_at hl 0 rfl) ?_
  refine lv_aload_n hx hb dX11_chain_3 rfl (lv_at hl 1 rfl) ?_
  refine va_get (D := (dC, dI)) (ci := 11) (v := .int 0) (C := RX11) (T := TX11) (N := 20) hx hb hts inq_X11_chain_c11 hown hK hP 0 rfl rfl 19 (by decide) (hts (.fieldLink RX11 416 "DiskEvidence" "actCount" "I") (List.mem_of_getElem? (i := 1) rfl)) (fun _ h9 => h9) rfl dX11_chain_4 ?_
  refine lv_icmp_ge (tgt := 33) hx hb dX11_chain_7 (by decide) (fun _ => ?_) (fun c_1 => absurd (by decide) c_1)
  refine lv_iconst (v := (-1)) hx hb dX11_chain_33 (by decide) ?_
  exact W.iret (v := (-1)) hx hb hr (fun t ht hW => ⟨(-1), rfl, rfl, ht⟩) (fun _ h => by cases h) dX11_chain_34
def dq_X12_chain : List Cond := [.fieldLink RX12 366 "DiskEvidenceModel" "acts" "I"]
def wq_X12_chain : List Cond := .code yX12_chain cX12_chain 2 (some .int) :: (dq_X12_chain ++ (wsX120))
theorem inq_X12_chain_c12 : ∀ w ∈ wsX120, w ∈ wq_X12_chain := fun w h => List.mem_cons_of_mem _ (List.mem_append_right _ (h))
theorem ga_X12_chain : wq_X12_chain.all goodWord = true := by decide +kernel
theorem tdq_X12_chain : ∀ w ∈ dq_X12_chain, w ∈ lw_tbl := fun w h => (goodIn_r (big := lw_tbl) dq_X12_chain [2416] (by decide +kernel) (by decide +kernel) w h).1
theorem tq_X12_chain : ∀ w ∈ wq_X12_chain, w ∈ lw_tbl := fun w h => (List.mem_cons.mp h).elim (fun e => by rw [e]; exact List.mem_of_getElem? (i := 3722) (by decide +kernel)) (fun h => (List.mem_append.mp h).elim (fun h => tdq_X12_chain w h) (fun h => nX12 w h))
set_option maxHeartbeats 40000000 in
set_option maxRecDepth 100000 in
theorem c_X12_chain (l : Launch) (dC : Nat → ClassId) (dI : Nat → Nat → Nat) (cI cB cZ cJ cC cP cV cT cO : ClassId) (sz : Nat) (h0 : Nat) (g : Nat → Nat)   : Met l yX12_chain wq_X12_chain ({ frames := 0, cells := 0, slots := 0, locals := 0 }) (va_Pc [.ref h0] (fun U => U.heap.size = sz ∧ va_P (dC, dI) vwCl [(h0, .inr (12, (fsM g)))] U.heap ∧ va_K (dC, dI) vwCl [(cI, .int), (cB, .byte), (cZ, .boolean), (cJ, .long), (cC, .char), (cP, .object "DiskEvidence$Picture"), (cV, .object "DiskEvidence$Volume"), (cT, .object "DiskEvidence$Tree"), (cO, .object "DiskEvidence$Opening")] U ∧ va_D (fun _ => True) [(h0, .inr (12, (fsM g)))])) (vp_Si (fun r : Int32 => r = (-1))) 0 0 (fun _ => False) := by
  refine Met.ofW (cc := cX12_chain) (maxL := 2) (ret := (some .int)) (by decide) rfl ?_
  intro p e s m args below meth c s₁ B hml hv
  obtain ⟨rfl, hsz, hP, hK, hD0⟩ := hv
  have hx := B.exec
  have hb := B.bytes
  have hr := B.returns
  have hts := atoms_spec (ws := wq_X12_chain) B.pre
  have hown : s.vm.findClass RX12 = some m.cls := findClass_of_methodNamed B.named
  have hlocks := B.notSynchronized
  subst hsz
  have hD := hD0.self (sz := s.heap.size)
  generalize hAe : va_A [(h0, .inr (12, (fsM g)))] s.heap.size = A at hD ⊢
  have hA : ∀ q : Nat, s.heap.size ≤ q → A q := fun q h => by rw [← hAe]; exact Or.inr h
  have hS : va_S A s.heap s.heap [] := va_S.rf
  have hl := lv_entry ([.ref h0]) (n := 2) (Nat.le_of_ble_eq_true rfl)
  rw [lg_entry_eq]
  generalize (lg_sl ([.ref h0]) ++ List.replicate (2 - (lg_sl ([.ref h0])).length) Slot.unset).toArray = ls at hl ⊢
  have hl : lv_has ls 2 [(0, .ref h0)] := hl
  refine lv_iconst (v := 0) hx hb dX12_chain_0 (by decide) ?_
  refine lv_istore_n (lv' := [(1, .int 0), (0, .ref h0)]) hx hb dX12_chain_1 rfl hl (by decide) rfl (fun ls hl => ?_)
  refine lv_iload_n hx hb dX12_chain_2 rfl (lv_at hl 0 rfl) ?_
  refine lv_aload_n hx hb dX12_chain_3 rfl (lv_at hl 1 rfl) ?_
  refine va_get (D := (dC, dI)) (ci := 12) (v := .int 0) (C := RX12) (T := TX12) (N := 172) hx hb hts inq_X12_chain_c12 hown hK hP 0 rfl rfl 167 (by decide) (hts (.fieldLink RX12 366 "DiskEvidenceModel" "acts" "I") (List.mem_of_getElem? (i := 1) rfl)) (fun _ h9 => h9) rfl dX12_chain_4 ?_
  refine lv_icmp_ge (tgt := 33) hx hb dX12_chain_7 (by decide) (fun _ => ?_) (fun c_1 => absurd (by decide) c_1)
  refine lv_iconst (v := (-1)) hx hb dX12_chain_33 (by decide) ?_
  exact W.iret (v := (-1)) hx hb hr (fun t ht hW => ⟨(-1), rfl, rfl, ht⟩) (fun _ h => by cases h) dX12_chain_34
def dq_X11_count : List Cond := [.fieldLink RX11 76 "DiskEvidence" "collectedCount" "I", .fieldLink RX11 85 "DiskEvidence" "pictureCount" "I", .fieldLink RX11 143 "DiskEvidence" "volumeCount" "I", .fieldLink RX11 188 "DiskEvidence" "treeCount" "I", .fieldLink RX11 290 "DiskEvidence" "openingCount" "I", .fieldLink RX11 51 "DiskEvidence" "finder" "LDiskEvidence$Finder;", .fieldLink RX11 338 "DiskEvidence$Finder" "hitCount" "I", .fieldLink RX11 58 "DiskEvidence" "query" "LDiskEvidence$Query;", .fieldLink RX11 348 "DiskEvidence$Query" "rowCount" "I", .fieldLink RX11 387 "DiskEvidence" "claimCount" "I", .fieldLink RX11 416 "DiskEvidence" "actCount" "I", .fieldLink RX11 82 "DiskEvidence" "now" "I"]
def wq_X11_count : List Cond := .code yX11_count cX11_count 2 (some .int) :: (dq_X11_count ++ (wsX110 ++ (wsX00 ++ (wsX60))))
theorem inq_X11_count_c11 : ∀ w ∈ wsX110, w ∈ wq_X11_count := fun w h => List.mem_cons_of_mem _ (List.mem_append_right _ (List.mem_append_left _ h))
theorem inq_X11_count_c0 : ∀ w ∈ wsX00, w ∈ wq_X11_count := fun w h => List.mem_cons_of_mem _ (List.mem_append_right _ (List.mem_append_right _ (List.mem_append_left _ h)))
theorem inq_X11_count_c6 : ∀ w ∈ wsX60, w ∈ wq_X11_count := fun w h => List.mem_cons_of_mem _ (List.mem_append_right _ (List.mem_append_right _ (List.mem_append_right _ (h))))
theorem ga_X11_count : wq_X11_count.all goodWord = true := by decide +kernel
theorem tdq_X11_count : ∀ w ∈ dq_X11_count, w ∈ lw_tbl := fun w h => (goodIn_r (big := lw_tbl) dq_X11_count [587, 590, 592, 594, 596, 600, 488, 601, 528, 598, 605, 588] (by decide +kernel) (by decide +kernel) w h).1
theorem tq_X11_count : ∀ w ∈ wq_X11_count, w ∈ lw_tbl := fun w h => (List.mem_cons.mp h).elim (fun e => by rw [e]; exact List.mem_of_getElem? (i := 2238) (by decide +kernel)) (fun h => (List.mem_append.mp h).elim (fun h => tdq_X11_count w h) (fun h => (List.mem_append.mp h).elim (fun h => nX11 w h) (fun h => (List.mem_append.mp h).elim (fun h => nX0 w h) (fun h => nX6 w h))))
set_option maxHeartbeats 40000000 in
set_option maxRecDepth 100000 in
theorem c_X11_count (l : Launch) (dC : Nat → ClassId) (dI : Nat → Nat → Nat) (cI cB cZ cJ cC cP cV cT cO : ClassId) (sz : Nat) (h0 : Nat) (g : Nat → Nat) (tf tq : Nat → Nat) (p0 : Int32) : Met l yX11_count wq_X11_count ({ frames := 0, cells := 0, slots := 0, locals := 0 }) (va_Pc [.ref h0, .int p0] (fun U => U.heap.size = sz ∧ va_P (dC, dI) vwCl [(h0, .inr (11, (fsX g))), ((g 14), .inr (0, (fs0 tf))), ((g 15), .inr (6, (fs6 tq)))] U.heap ∧ va_K (dC, dI) vwCl [(cI, .int), (cB, .byte), (cZ, .boolean), (cJ, .long), (cC, .char), (cP, .object "DiskEvidence$Picture"), (cV, .object "DiskEvidence$Volume"), (cT, .object "DiskEvidence$Tree"), (cO, .object "DiskEvidence$Opening")] U ∧ va_D (fun _ => True) [(h0, .inr (11, (fsX g))), ((g 14), .inr (0, (fs0 tf))), ((g 15), .inr (6, (fs6 tq)))])) (vp_Si (fun r : Int32 => r = countS p0)) 0 0 (fun _ => False) := by
  refine Met.ofW (cc := cX11_count) (maxL := 2) (ret := (some .int)) (by decide) rfl ?_
  intro p e s m args below meth c s₁ B hml hv
  obtain ⟨rfl, hsz, hP, hK, hD0⟩ := hv
  have hx := B.exec
  have hb := B.bytes
  have hr := B.returns
  have hts := atoms_spec (ws := wq_X11_count) B.pre
  have hown : s.vm.findClass RX11 = some m.cls := findClass_of_methodNamed B.named
  have hlocks := B.notSynchronized
  subst hsz
  have hD := hD0.self (sz := s.heap.size)
  generalize hAe : va_A [(h0, .inr (11, (fsX g))), ((g 14), .inr (0, (fs0 tf))), ((g 15), .inr (6, (fs6 tq)))] s.heap.size = A at hD ⊢
  have hA : ∀ q : Nat, s.heap.size ≤ q → A q := fun q h => by rw [← hAe]; exact Or.inr h
  have hS : va_S A s.heap s.heap [] := va_S.rf
  have hl := lv_entry ([.ref h0, .int p0]) (n := 2) (Nat.le_of_ble_eq_true rfl)
  rw [lg_entry_eq]
  generalize (lg_sl ([.ref h0, .int p0]) ++ List.replicate (2 - (lg_sl ([.ref h0, .int p0])).length) Slot.unset).toArray = ls at hl ⊢
  have hl : lv_has ls 2 [(0, .ref h0), (1, .int p0)] := hl
  refine lv_iload_n hx hb dX11_count_0 rfl (lv_at hl 1 rfl) ?_
  rcases sw_cases 9 p0 with hsw_1 | ⟨j_1, hj_1, hsw_1⟩
  · refine lv_tableOut (tgt := 112) hx hb dX11_count_1 hsw_1 (by decide) ?_
    refine lv_bipush (v := (-2)) hx hb dX11_count_112 (by decide) ?_
    exact W.iret (v := (-2)) hx hb hr (fun t ht hW => ⟨(-2), rfl, (if_pos hsw_1).symm, ht⟩) (fun _ h => by cases h) dX11_count_114
  · rcases (show j_1 = 0 ∨ j_1 = 1 ∨ j_1 = 2 ∨ j_1 = 3 ∨ j_1 = 4 ∨ j_1 = 5 ∨ j_1 = 6 ∨ j_1 = 7 ∨ j_1 = 8 ∨ j_1 = 9 by omega) with rfl | rfl | rfl | rfl | rfl | rfl | rfl | rfl | rfl | rfl
    · obtain rfl : p0 = 0 := hsw_1
      refine lv_tableIn (tgt := 56) hx hb dX11_count_1 (by decide) (by decide) rfl (by decide) ?_
      refine lv_aload_n hx hb dX11_count_56 rfl (lv_at hl 0 rfl) ?_
      refine va_get (D := (dC, dI)) (ci := 11) (v := .int 0) (C := RX11) (T := TX11) (N := 20) hx hb hts inq_X11_count_c11 hown hK hP 0 rfl rfl 1 (by decide) (hts (.fieldLink RX11 76 "DiskEvidence" "collectedCount" "I") (List.mem_of_getElem? (i := 1) rfl)) (fun _ h9 => h9) rfl dX11_count_57 ?_
      exact W.iret (v := 0) hx hb hr (fun t ht hW => ⟨0, rfl, by decide, ht⟩) (fun _ h => by cases h) dX11_count_60
    · obtain rfl : p0 = 1 := hsw_1
      refine lv_tableIn (tgt := 61) hx hb dX11_count_1 (by decide) (by decide) rfl (by decide) ?_
      refine lv_aload_n hx hb dX11_count_61 rfl (lv_at hl 0 rfl) ?_
      refine va_get (D := (dC, dI)) (ci := 11) (v := .int 0) (C := RX11) (T := TX11) (N := 20) hx hb hts inq_X11_count_c11 hown hK hP 0 rfl rfl 4 (by decide) (hts (.fieldLink RX11 85 "DiskEvidence" "pictureCount" "I") (List.mem_of_getElem? (i := 2) rfl)) (fun _ h9 => h9) rfl dX11_count_62 ?_
      exact W.iret (v := 0) hx hb hr (fun t ht hW => ⟨0, rfl, by decide, ht⟩) (fun _ h => by cases h) dX11_count_65
    · obtain rfl : p0 = 2 := hsw_1
      refine lv_tableIn (tgt := 66) hx hb dX11_count_1 (by decide) (by decide) rfl (by decide) ?_
      refine lv_aload_n hx hb dX11_count_66 rfl (lv_at hl 0 rfl) ?_
      refine va_get (D := (dC, dI)) (ci := 11) (v := .int 0) (C := RX11) (T := TX11) (N := 20) hx hb hts inq_X11_count_c11 hown hK hP 0 rfl rfl 6 (by decide) (hts (.fieldLink RX11 143 "DiskEvidence" "volumeCount" "I") (List.mem_of_getElem? (i := 3) rfl)) (fun _ h9 => h9) rfl dX11_count_67 ?_
      exact W.iret (v := 0) hx hb hr (fun t ht hW => ⟨0, rfl, by decide, ht⟩) (fun _ h => by cases h) dX11_count_70
    · obtain rfl : p0 = 3 := hsw_1
      refine lv_tableIn (tgt := 71) hx hb dX11_count_1 (by decide) (by decide) rfl (by decide) ?_
      refine lv_aload_n hx hb dX11_count_71 rfl (lv_at hl 0 rfl) ?_
      refine va_get (D := (dC, dI)) (ci := 11) (v := .int 0) (C := RX11) (T := TX11) (N := 20) hx hb hts inq_X11_count_c11 hown hK hP 0 rfl rfl 8 (by decide) (hts (.fieldLink RX11 188 "DiskEvidence" "treeCount" "I") (List.mem_of_getElem? (i := 4) rfl)) (fun _ h9 => h9) rfl dX11_count_72 ?_
      exact W.iret (v := 0) hx hb hr (fun t ht hW => ⟨0, rfl, by decide, ht⟩) (fun _ h => by cases h) dX11_count_75
    · obtain rfl : p0 = 4 := hsw_1
      refine lv_tableIn (tgt := 76) hx hb dX11_count_1 (by decide) (by decide) rfl (by decide) ?_
      refine lv_aload_n hx hb dX11_count_76 rfl (lv_at hl 0 rfl) ?_
      refine va_get (D := (dC, dI)) (ci := 11) (v := .int 0) (C := RX11) (T := TX11) (N := 20) hx hb hts inq_X11_count_c11 hown hK hP 0 rfl rfl 10 (by decide) (hts (.fieldLink RX11 290 "DiskEvidence" "openingCount" "I") (List.mem_of_getElem? (i := 5) rfl)) (fun _ h9 => h9) rfl dX11_count_77 ?_
      exact W.iret (v := 0) hx hb hr (fun t ht hW => ⟨0, rfl, by decide, ht⟩) (fun _ h => by cases h) dX11_count_80
    · obtain rfl : p0 = 5 := hsw_1
      refine lv_tableIn (tgt := 81) hx hb dX11_count_1 (by decide) (by decide) rfl (by decide) ?_
      refine lv_aload_n hx hb dX11_count_81 rfl (lv_at hl 0 rfl) ?_
      refine va_get (D := (dC, dI)) (ci := 11) (v := .ref (g 14)) (C := RX11) (T := TX11) (N := 20) hx hb hts inq_X11_count_c11 hown hK hP 0 rfl rfl 14 (by decide) (hts (.fieldLink RX11 51 "DiskEvidence" "finder" "LDiskEvidence$Finder;") (List.mem_of_getElem? (i := 6) rfl)) (fun _ h9 => h9) rfl dX11_count_82 ?_
      refine va_get (D := (dC, dI)) (ci := 0) (v := .int 0) (C := RX0) (T := TX0) (N := 10) hx hb hts inq_X11_count_c0 hown hK hP 1 rfl rfl 1 (by decide) (hts (.fieldLink RX11 338 "DiskEvidence$Finder" "hitCount" "I") (List.mem_of_getElem? (i := 7) rfl)) (fun _ h9 => h9) rfl dX11_count_85 ?_
      exact W.iret (v := 0) hx hb hr (fun t ht hW => ⟨0, rfl, by decide, ht⟩) (fun _ h => by cases h) dX11_count_88
    · obtain rfl : p0 = 6 := hsw_1
      refine lv_tableIn (tgt := 89) hx hb dX11_count_1 (by decide) (by decide) rfl (by decide) ?_
      refine lv_aload_n hx hb dX11_count_89 rfl (lv_at hl 0 rfl) ?_
      refine va_get (D := (dC, dI)) (ci := 11) (v := .ref (g 15)) (C := RX11) (T := TX11) (N := 20) hx hb hts inq_X11_count_c11 hown hK hP 0 rfl rfl 15 (by decide) (hts (.fieldLink RX11 58 "DiskEvidence" "query" "LDiskEvidence$Query;") (List.mem_of_getElem? (i := 8) rfl)) (fun _ h9 => h9) rfl dX11_count_90 ?_
      refine va_get (D := (dC, dI)) (ci := 6) (v := .int 0) (C := RX6) (T := TX6) (N := 11) hx hb hts inq_X11_count_c6 hown hK hP 2 rfl rfl 1 (by decide) (hts (.fieldLink RX11 348 "DiskEvidence$Query" "rowCount" "I") (List.mem_of_getElem? (i := 9) rfl)) (fun _ h9 => h9) rfl dX11_count_93 ?_
      exact W.iret (v := 0) hx hb hr (fun t ht hW => ⟨0, rfl, by decide, ht⟩) (fun _ h => by cases h) dX11_count_96
    · obtain rfl : p0 = 7 := hsw_1
      refine lv_tableIn (tgt := 97) hx hb dX11_count_1 (by decide) (by decide) rfl (by decide) ?_
      refine lv_aload_n hx hb dX11_count_97 rfl (lv_at hl 0 rfl) ?_
      refine va_get (D := (dC, dI)) (ci := 11) (v := .int 0) (C := RX11) (T := TX11) (N := 20) hx hb hts inq_X11_count_c11 hown hK hP 0 rfl rfl 12 (by decide) (hts (.fieldLink RX11 387 "DiskEvidence" "claimCount" "I") (List.mem_of_getElem? (i := 10) rfl)) (fun _ h9 => h9) rfl dX11_count_98 ?_
      exact W.iret (v := 0) hx hb hr (fun t ht hW => ⟨0, rfl, by decide, ht⟩) (fun _ h => by cases h) dX11_count_101
    · obtain rfl : p0 = 8 := hsw_1
      refine lv_tableIn (tgt := 102) hx hb dX11_count_1 (by decide) (by decide) rfl (by decide) ?_
      refine lv_aload_n hx hb dX11_count_102 rfl (lv_at hl 0 rfl) ?_
      refine va_get (D := (dC, dI)) (ci := 11) (v := .int 0) (C := RX11) (T := TX11) (N := 20) hx hb hts inq_X11_count_c11 hown hK hP 0 rfl rfl 19 (by decide) (hts (.fieldLink RX11 416 "DiskEvidence" "actCount" "I") (List.mem_of_getElem? (i := 11) rfl)) (fun _ h9 => h9) rfl dX11_count_103 ?_
      exact W.iret (v := 0) hx hb hr (fun t ht hW => ⟨0, rfl, by decide, ht⟩) (fun _ h => by cases h) dX11_count_106
    · obtain rfl : p0 = 9 := hsw_1
      refine lv_tableIn (tgt := 107) hx hb dX11_count_1 (by decide) (by decide) rfl (by decide) ?_
      refine lv_aload_n hx hb dX11_count_107 rfl (lv_at hl 0 rfl) ?_
      refine va_get (D := (dC, dI)) (ci := 11) (v := .int 0) (C := RX11) (T := TX11) (N := 20) hx hb hts inq_X11_count_c11 hown hK hP 0 rfl rfl 2 (by decide) (hts (.fieldLink RX11 82 "DiskEvidence" "now" "I") (List.mem_of_getElem? (i := 12) rfl)) (fun _ h9 => h9) rfl dX11_count_108 ?_
      exact W.iret (v := 0) hx hb hr (fun t ht hW => ⟨0, rfl, by decide, ht⟩) (fun _ h => by cases h) dX11_count_111
def dq_X12_count : List Cond := [.fieldLink RX12 376 "DiskEvidenceModel" "many" "I", .fieldLink RX12 393 "DiskEvidenceModel" "pictures" "I", .fieldLink RX12 466 "DiskEvidenceModel" "volumes" "I", .fieldLink RX12 794 "DiskEvidenceModel" "trees" "I", .fieldLink RX12 983 "DiskEvidenceModel" "opens" "I", .fieldLink RX12 1023 "DiskEvidenceModel" "hits" "I", .fieldLink RX12 1133 "DiskEvidenceModel" "results" "I", .fieldLink RX12 1156 "DiskEvidenceModel" "claims" "I", .fieldLink RX12 366 "DiskEvidenceModel" "acts" "I", .fieldLink RX12 383 "DiskEvidenceModel" "now" "I"]
def wq_X12_count : List Cond := .code yX12_count cX12_count 2 (some .int) :: (dq_X12_count ++ (wsX120))
theorem inq_X12_count_c12 : ∀ w ∈ wsX120, w ∈ wq_X12_count := fun w h => List.mem_cons_of_mem _ (List.mem_append_right _ (h))
theorem ga_X12_count : wq_X12_count.all goodWord = true := by decide +kernel
theorem tdq_X12_count : ∀ w ∈ dq_X12_count, w ∈ lw_tbl := fun w h => (goodIn_r (big := lw_tbl) dq_X12_count [2249, 2252, 2256, 2308, 2356, 2373, 2398, 2410, 2416, 2251] (by decide +kernel) (by decide +kernel) w h).1
theorem tq_X12_count : ∀ w ∈ wq_X12_count, w ∈ lw_tbl := fun w h => (List.mem_cons.mp h).elim (fun e => by rw [e]; exact List.mem_of_getElem? (i := 3726) (by decide +kernel)) (fun h => (List.mem_append.mp h).elim (fun h => tdq_X12_count w h) (fun h => nX12 w h))
set_option maxHeartbeats 40000000 in
set_option maxRecDepth 100000 in
theorem c_X12_count (l : Launch) (dC : Nat → ClassId) (dI : Nat → Nat → Nat) (cI cB cZ cJ cC cP cV cT cO : ClassId) (sz : Nat) (h0 : Nat) (g : Nat → Nat)  (p0 : Int32) : Met l yX12_count wq_X12_count ({ frames := 0, cells := 0, slots := 0, locals := 0 }) (va_Pc [.ref h0, .int p0] (fun U => U.heap.size = sz ∧ va_P (dC, dI) vwCl [(h0, .inr (12, (fsM g)))] U.heap ∧ va_K (dC, dI) vwCl [(cI, .int), (cB, .byte), (cZ, .boolean), (cJ, .long), (cC, .char), (cP, .object "DiskEvidence$Picture"), (cV, .object "DiskEvidence$Volume"), (cT, .object "DiskEvidence$Tree"), (cO, .object "DiskEvidence$Opening")] U ∧ va_D (fun _ => True) [(h0, .inr (12, (fsM g)))])) (vp_Si (fun r : Int32 => r = countS p0)) 0 0 (fun _ => False) := by
  refine Met.ofW (cc := cX12_count) (maxL := 2) (ret := (some .int)) (by decide) rfl ?_
  intro p e s m args below meth c s₁ B hml hv
  obtain ⟨rfl, hsz, hP, hK, hD0⟩ := hv
  have hx := B.exec
  have hb := B.bytes
  have hr := B.returns
  have hts := atoms_spec (ws := wq_X12_count) B.pre
  have hown : s.vm.findClass RX12 = some m.cls := findClass_of_methodNamed B.named
  have hlocks := B.notSynchronized
  subst hsz
  have hD := hD0.self (sz := s.heap.size)
  generalize hAe : va_A [(h0, .inr (12, (fsM g)))] s.heap.size = A at hD ⊢
  have hA : ∀ q : Nat, s.heap.size ≤ q → A q := fun q h => by rw [← hAe]; exact Or.inr h
  have hS : va_S A s.heap s.heap [] := va_S.rf
  have hl := lv_entry ([.ref h0, .int p0]) (n := 2) (Nat.le_of_ble_eq_true rfl)
  rw [lg_entry_eq]
  generalize (lg_sl ([.ref h0, .int p0]) ++ List.replicate (2 - (lg_sl ([.ref h0, .int p0])).length) Slot.unset).toArray = ls at hl ⊢
  have hl : lv_has ls 2 [(0, .ref h0), (1, .int p0)] := hl
  refine lv_iload_n hx hb dX12_count_0 rfl (lv_at hl 1 rfl) ?_
  rcases sw_cases 9 p0 with hsw_1 | ⟨j_1, hj_1, hsw_1⟩
  · refine lv_tableOut (tgt := 106) hx hb dX12_count_1 hsw_1 (by decide) ?_
    refine lv_bipush (v := (-2)) hx hb dX12_count_106 (by decide) ?_
    exact W.iret (v := (-2)) hx hb hr (fun t ht hW => ⟨(-2), rfl, (if_pos hsw_1).symm, ht⟩) (fun _ h => by cases h) dX12_count_108
  · rcases (show j_1 = 0 ∨ j_1 = 1 ∨ j_1 = 2 ∨ j_1 = 3 ∨ j_1 = 4 ∨ j_1 = 5 ∨ j_1 = 6 ∨ j_1 = 7 ∨ j_1 = 8 ∨ j_1 = 9 by omega) with rfl | rfl | rfl | rfl | rfl | rfl | rfl | rfl | rfl | rfl
    · obtain rfl : p0 = 0 := hsw_1
      refine lv_tableIn (tgt := 56) hx hb dX12_count_1 (by decide) (by decide) rfl (by decide) ?_
      refine lv_aload_n hx hb dX12_count_56 rfl (lv_at hl 0 rfl) ?_
      refine va_get (D := (dC, dI)) (ci := 12) (v := .int 0) (C := RX12) (T := TX12) (N := 172) hx hb hts inq_X12_count_c12 hown hK hP 0 rfl rfl 0 (by decide) (hts (.fieldLink RX12 376 "DiskEvidenceModel" "many" "I") (List.mem_of_getElem? (i := 1) rfl)) (fun _ h9 => h9) rfl dX12_count_57 ?_
      exact W.iret (v := 0) hx hb hr (fun t ht hW => ⟨0, rfl, by decide, ht⟩) (fun _ h => by cases h) dX12_count_60
    · obtain rfl : p0 = 1 := hsw_1
      refine lv_tableIn (tgt := 61) hx hb dX12_count_1 (by decide) (by decide) rfl (by decide) ?_
      refine lv_aload_n hx hb dX12_count_61 rfl (lv_at hl 0 rfl) ?_
      refine va_get (D := (dC, dI)) (ci := 12) (v := .int 0) (C := RX12) (T := TX12) (N := 172) hx hb hts inq_X12_count_c12 hown hK hP 0 rfl rfl 3 (by decide) (hts (.fieldLink RX12 393 "DiskEvidenceModel" "pictures" "I") (List.mem_of_getElem? (i := 2) rfl)) (fun _ h9 => h9) rfl dX12_count_62 ?_
      exact W.iret (v := 0) hx hb hr (fun t ht hW => ⟨0, rfl, by decide, ht⟩) (fun _ h => by cases h) dX12_count_65
    · obtain rfl : p0 = 2 := hsw_1
      refine lv_tableIn (tgt := 66) hx hb dX12_count_1 (by decide) (by decide) rfl (by decide) ?_
      refine lv_aload_n hx hb dX12_count_66 rfl (lv_at hl 0 rfl) ?_
      refine va_get (D := (dC, dI)) (ci := 12) (v := .int 0) (C := RX12) (T := TX12) (N := 172) hx hb hts inq_X12_count_c12 hown hK hP 0 rfl rfl 7 (by decide) (hts (.fieldLink RX12 466 "DiskEvidenceModel" "volumes" "I") (List.mem_of_getElem? (i := 3) rfl)) (fun _ h9 => h9) rfl dX12_count_67 ?_
      exact W.iret (v := 0) hx hb hr (fun t ht hW => ⟨0, rfl, by decide, ht⟩) (fun _ h => by cases h) dX12_count_70
    · obtain rfl : p0 = 3 := hsw_1
      refine lv_tableIn (tgt := 71) hx hb dX12_count_1 (by decide) (by decide) rfl (by decide) ?_
      refine lv_aload_n hx hb dX12_count_71 rfl (lv_at hl 0 rfl) ?_
      refine va_get (D := (dC, dI)) (ci := 12) (v := .int 0) (C := RX12) (T := TX12) (N := 172) hx hb hts inq_X12_count_c12 hown hK hP 0 rfl rfl 59 (by decide) (hts (.fieldLink RX12 794 "DiskEvidenceModel" "trees" "I") (List.mem_of_getElem? (i := 4) rfl)) (fun _ h9 => h9) rfl dX12_count_72 ?_
      exact W.iret (v := 0) hx hb hr (fun t ht hW => ⟨0, rfl, by decide, ht⟩) (fun _ h => by cases h) dX12_count_75
    · obtain rfl : p0 = 4 := hsw_1
      refine lv_tableIn (tgt := 76) hx hb dX12_count_1 (by decide) (by decide) rfl (by decide) ?_
      refine lv_aload_n hx hb dX12_count_76 rfl (lv_at hl 0 rfl) ?_
      refine va_get (D := (dC, dI)) (ci := 12) (v := .int 0) (C := RX12) (T := TX12) (N := 172) hx hb hts inq_X12_count_c12 hown hK hP 0 rfl rfl 107 (by decide) (hts (.fieldLink RX12 983 "DiskEvidenceModel" "opens" "I") (List.mem_of_getElem? (i := 5) rfl)) (fun _ h9 => h9) rfl dX12_count_77 ?_
      exact W.iret (v := 0) hx hb hr (fun t ht hW => ⟨0, rfl, by decide, ht⟩) (fun _ h => by cases h) dX12_count_80
    · obtain rfl : p0 = 5 := hsw_1
      refine lv_tableIn (tgt := 81) hx hb dX12_count_1 (by decide) (by decide) rfl (by decide) ?_
      refine lv_aload_n hx hb dX12_count_81 rfl (lv_at hl 0 rfl) ?_
      refine va_get (D := (dC, dI)) (ci := 12) (v := .int 0) (C := RX12) (T := TX12) (N := 172) hx hb hts inq_X12_count_c12 hown hK hP 0 rfl rfl 124 (by decide) (hts (.fieldLink RX12 1023 "DiskEvidenceModel" "hits" "I") (List.mem_of_getElem? (i := 6) rfl)) (fun _ h9 => h9) rfl dX12_count_82 ?_
      exact W.iret (v := 0) hx hb hr (fun t ht hW => ⟨0, rfl, by decide, ht⟩) (fun _ h => by cases h) dX12_count_85
    · obtain rfl : p0 = 6 := hsw_1
      refine lv_tableIn (tgt := 86) hx hb dX12_count_1 (by decide) (by decide) rfl (by decide) ?_
      refine lv_aload_n hx hb dX12_count_86 rfl (lv_at hl 0 rfl) ?_
      refine va_get (D := (dC, dI)) (ci := 12) (v := .int 0) (C := RX12) (T := TX12) (N := 172) hx hb hts inq_X12_count_c12 hown hK hP 0 rfl rfl 149 (by decide) (hts (.fieldLink RX12 1133 "DiskEvidenceModel" "results" "I") (List.mem_of_getElem? (i := 7) rfl)) (fun _ h9 => h9) rfl dX12_count_87 ?_
      exact W.iret (v := 0) hx hb hr (fun t ht hW => ⟨0, rfl, by decide, ht⟩) (fun _ h => by cases h) dX12_count_90
    · obtain rfl : p0 = 7 := hsw_1
      refine lv_tableIn (tgt := 91) hx hb dX12_count_1 (by decide) (by decide) rfl (by decide) ?_
      refine lv_aload_n hx hb dX12_count_91 rfl (lv_at hl 0 rfl) ?_
      refine va_get (D := (dC, dI)) (ci := 12) (v := .int 0) (C := RX12) (T := TX12) (N := 172) hx hb hts inq_X12_count_c12 hown hK hP 0 rfl rfl 161 (by decide) (hts (.fieldLink RX12 1156 "DiskEvidenceModel" "claims" "I") (List.mem_of_getElem? (i := 8) rfl)) (fun _ h9 => h9) rfl dX12_count_92 ?_
      exact W.iret (v := 0) hx hb hr (fun t ht hW => ⟨0, rfl, by decide, ht⟩) (fun _ h => by cases h) dX12_count_95
    · obtain rfl : p0 = 8 := hsw_1
      refine lv_tableIn (tgt := 96) hx hb dX12_count_1 (by decide) (by decide) rfl (by decide) ?_
      refine lv_aload_n hx hb dX12_count_96 rfl (lv_at hl 0 rfl) ?_
      refine va_get (D := (dC, dI)) (ci := 12) (v := .int 0) (C := RX12) (T := TX12) (N := 172) hx hb hts inq_X12_count_c12 hown hK hP 0 rfl rfl 167 (by decide) (hts (.fieldLink RX12 366 "DiskEvidenceModel" "acts" "I") (List.mem_of_getElem? (i := 9) rfl)) (fun _ h9 => h9) rfl dX12_count_97 ?_
      exact W.iret (v := 0) hx hb hr (fun t ht hW => ⟨0, rfl, by decide, ht⟩) (fun _ h => by cases h) dX12_count_100
    · obtain rfl : p0 = 9 := hsw_1
      refine lv_tableIn (tgt := 101) hx hb dX12_count_1 (by decide) (by decide) rfl (by decide) ?_
      refine lv_aload_n hx hb dX12_count_101 rfl (lv_at hl 0 rfl) ?_
      refine va_get (D := (dC, dI)) (ci := 12) (v := .int 0) (C := RX12) (T := TX12) (N := 172) hx hb hts inq_X12_count_c12 hown hK hP 0 rfl rfl 2 (by decide) (hts (.fieldLink RX12 383 "DiskEvidenceModel" "now" "I") (List.mem_of_getElem? (i := 10) rfl)) (fun _ h9 => h9) rfl dX12_count_102 ?_
      exact W.iret (v := 0) hx hb hr (fun t ht hW => ⟨0, rfl, by decide, ht⟩) (fun _ h => by cases h) dX12_count_105
