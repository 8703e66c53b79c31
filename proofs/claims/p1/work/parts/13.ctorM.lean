set_option maxHeartbeats 40000000 in
set_option maxRecDepth 100000 in
theorem c_X12_init (l : Launch) (dC : Nat → ClassId) (dI : Nat → Nat → Nat) (cI cB cZ cJ cC cP cV cT cO : ClassId) (sz : Nat) (h0 : Nat) : Met l yX12_init wsX12_init ({ frames := 1, cells := 115, slots := 745641, locals := 12 }) (va_Pc [.ref h0] (fun U => U.heap.size = sz ∧ va_P (dC, dI) vwCl [(h0, .inr (12, df12))] U.heap ∧ va_K (dC, dI) vwCl [(cI, .int), (cB, .byte), (cZ, .boolean), (cJ, .long), (cC, .char), (cP, .object "DiskEvidence$Picture"), (cV, .object "DiskEvidence$Volume"), (cT, .object "DiskEvidence$Tree"), (cO, .object "DiskEvidence$Opening")] U ∧ va_D (fun _ => True) [(h0, .inr (12, df12))])) (va_Qv (fun _ : (Nat → Nat) => True) (fun u t => va_P (dC, dI) vwCl [(h0, .inr (12, fsM u)), ((u 1), .inl (cI, 4000, (.inl (fun _ => 0)))), ((u 4), .inl (cI, 6, (.inl (fun _ => 0)))), ((u 5), .inl (cI, 49152, (.inl (fun _ => 0)))), ((u 6), .inl (cZ, 768, (.inl (fun _ => 0)))), ((u 168), .inl (cI, 100, (.inl (fun _ => 0)))), ((u 169), .inl (cI, 100, (.inl (fun _ => 0)))), ((u 170), .inl (cI, 100, (.inl (fun _ => 0)))), ((u 171), .inl (cJ, 100, (.inr (.inl (fun _ => 0)))))] t.heap ∧ va_D (va_A [(h0, .inr (12, df12))] sz) [(h0, .inr (12, fsM u)), ((u 1), .inl (cI, 4000, (.inl (fun _ => 0)))), ((u 4), .inl (cI, 6, (.inl (fun _ => 0)))), ((u 5), .inl (cI, 49152, (.inl (fun _ => 0)))), ((u 6), .inl (cZ, 768, (.inl (fun _ => 0)))), ((u 168), .inl (cI, 100, (.inl (fun _ => 0)))), ((u 169), .inl (cI, 100, (.inl (fun _ => 0)))), ((u 170), .inl (cI, 100, (.inl (fun _ => 0)))), ((u 171), .inl (cJ, 100, (.inr (.inl (fun _ => 0)))))]) (va_A [(h0, .inr (12, df12))] sz)) 115 745641 (va_A [(h0, .inr (12, df12))] sz) := by
  refine Met.ofW (cc := cX12_init) (maxL := 1) (ret := none) (by decide) rfl ?_
  intro p e s m args below meth c s₁ B hml hv
  obtain ⟨rfl, hsz, hP, hK, hD0⟩ := hv
  have hx := B.exec
  have hb := B.bytes
  have hr := B.returns
  have hts := atoms_spec (ws := wsX12_init) B.pre
  have hown : s.vm.findClass RX12 = some m.cls := findClass_of_methodNamed B.named
  have hlocks := B.notSynchronized
  have hin : meth.name = "<init>" := (name_of_methodNamed B.named B.method).1
  subst hsz
  have hD := hD0.self (sz := s.heap.size)
  generalize hAe : va_A [(h0, .inr (12, df12))] s.heap.size = A at hD ⊢
  have hA : ∀ q : Nat, s.heap.size ≤ q → A q := fun q h => by rw [← hAe]; exact Or.inr h
  have hS : va_S A s.heap s.heap [] := va_S.rf
  have hl := lv_entry ([.ref h0]) (n := 1) (Nat.le_of_ble_eq_true rfl)
  rw [lg_entry_eq]
  generalize (lg_sl ([.ref h0]) ++ List.replicate (1 - (lg_sl ([.ref h0])).length) Slot.unset).toArray = ls at hl ⊢
  have hl : lv_has ls 1 [(0, .ref h0)] := hl
  refine lv_aload_n hx hb dX12_init_0 rfl (lv_at hl 0 rfl) ?_
  refine W.objInit hx hb hown (hts (.methodLink RX12 1 objectInit) (List.mem_of_getElem? (i := 1) rfl)) (hts (.instanceMethod objectInit) (List.mem_of_getElem? (i := 2) rfl)) (hts (.code objectInit ⟨#[0xb1]⟩ 1 none) (List.mem_of_getElem? (i := 3) rfl)) rfl (by rw [hml]; exact hl.1) rfl dX12_init_1 (Nat.le_of_ble_eq_true rfl) (Nat.le_of_ble_eq_true rfl) ?_
  refine W.eq (g2 := F0 m 4 ls []) rfl ?_
  refine lv_aload_n hx hb dX12_init_4 rfl (lv_at hl 0 rfl) ?_
  refine lv_sipush (v := 4000) hx hb dX12_init_5 (by decide) ?_
  refine nw_arr (atype := .int) (N' := 4000) (a0 := (4000, (.inl (fun _ => 0)))) hx hb (hts (.arrayClass .int) (List.mem_of_getElem? (i := 4) rfl)) rfl hK 0 (cI := cI) rfl hP hD hS hA (fun _ => rfl) (by decide) (by decide) (by decide) (Nat.le_of_ble_eq_true rfl) (Nat.le_of_ble_eq_true rfl) dX12_init_8 (fun q1 H hP hD hS => ?_)
  have hP : va_P (dC, dI) vwCl [(h0, .inr (12, df12)), (q1, .inl (cI, 4000, (.inl (fun _ => 0))))] H := hP
  have hD : va_D A [(h0, .inr (12, df12)), (q1, .inl (cI, 4000, (.inl (fun _ => 0))))] := hD
  refine W.widen (k := 1) (n := 4000) (by decide) (by decide) ?_
  refine va_putF (D := (dC, dI)) (ci := 12) (v := .ref q1) (ty := .array (.int)) (C := RX12) (T := TX12) (N := 172) hx hb hts inX12_init_c12 tyX12 tyX12_ok nmX12 hown hK hP hD hS 0 rfl rfl 1 (by decide) (hts (.fieldLink RX12 7 "DiskEvidenceModel" "bytes" "[I") (List.mem_of_getElem? (i := 5) rfl)) (fun _ h9 => h9) rfl hin rfl (by decide +kernel) rfl rfl (by rw [df12_len]; decide) dX12_init_10 (fun H locs hP hD hS => ?_)
  have hP : va_P (dC, dI) vwCl [(h0, .inr (12, (df12.set 1 (.ref q1)))), (q1, .inl (cI, 4000, (.inl (fun _ => 0))))] H := hP
  have hD : va_D A [(h0, .inr (12, (df12.set 1 (.ref q1)))), (q1, .inl (cI, 4000, (.inl (fun _ => 0))))] := hD
  obtain ⟨fs_2, efs_2⟩ : ∃ y, y = (df12.set 1 (.ref q1)) := ⟨_, rfl⟩
  rw [← efs_2] at hP hD
  have hfl_2 : fs_2.length = 172 := by rw [efs_2, List.length_set]; exact df12_len
  refine lv_aload_n hx hb dX12_init_13 rfl (lv_at hl 0 rfl) ?_
  refine lv_bipush (v := 6) hx hb dX12_init_14 (by decide) ?_
  refine nw_arr (atype := .int) (N' := 6) (a0 := (6, (.inl (fun _ => 0)))) hx hb (hts (.arrayClass .int) (List.mem_of_getElem? (i := 4) rfl)) rfl hK 0 (cI := cI) rfl hP hD hS hA (fun _ => rfl) (by decide) (by decide) (by decide) (Nat.le_of_ble_eq_true rfl) (Nat.le_of_ble_eq_true rfl) dX12_init_16 (fun q3 H hP hD hS => ?_)
  have hP : va_P (dC, dI) vwCl [(h0, .inr (12, fs_2)), (q1, .inl (cI, 4000, (.inl (fun _ => 0)))), (q3, .inl (cI, 6, (.inl (fun _ => 0))))] H := hP
  have hD : va_D A [(h0, .inr (12, fs_2)), (q1, .inl (cI, 4000, (.inl (fun _ => 0)))), (q3, .inl (cI, 6, (.inl (fun _ => 0))))] := hD
  refine W.widen (k := 2) (n := 4006) (by decide) (by decide) ?_
  refine va_putF (D := (dC, dI)) (ci := 12) (v := .ref q3) (ty := .array (.int)) (C := RX12) (T := TX12) (N := 172) hx hb hts inX12_init_c12 tyX12 tyX12_ok nmX12 hown hK hP hD hS 0 rfl rfl 4 (by decide) (hts (.fieldLink RX12 13 "DiskEvidenceModel" "sectorsOf" "[I") (List.mem_of_getElem? (i := 6) rfl)) (fun _ h9 => h9) rfl hin rfl (by decide +kernel) rfl rfl (by rw [hfl_2]; decide) dX12_init_18 (fun H locs hP hD hS => ?_)
  have hP : va_P (dC, dI) vwCl [(h0, .inr (12, (fs_2.set 4 (.ref q3)))), (q1, .inl (cI, 4000, (.inl (fun _ => 0)))), (q3, .inl (cI, 6, (.inl (fun _ => 0))))] H := hP
  have hD : va_D A [(h0, .inr (12, (fs_2.set 4 (.ref q3)))), (q1, .inl (cI, 4000, (.inl (fun _ => 0)))), (q3, .inl (cI, 6, (.inl (fun _ => 0))))] := hD
  obtain ⟨fs_4, efs_4⟩ : ∃ y, y = (fs_2.set 4 (.ref q3)) := ⟨_, rfl⟩
  rw [← efs_4] at hP hD
  have hfl_4 : fs_4.length = 172 := by rw [efs_4, List.length_set]; exact hfl_2
  refine lv_aload_n hx hb dX12_init_21 rfl (lv_at hl 0 rfl) ?_
  refine lv_ldc (v := 49152) hx hb hown (hts (.constant RX12 16 (49152)) (List.mem_of_getElem? (i := 7) rfl)) dX12_init_22 ?_
  refine nw_arr (atype := .int) (N' := 49152) (a0 := (49152, (.inl (fun _ => 0)))) hx hb (hts (.arrayClass .int) (List.mem_of_getElem? (i := 4) rfl)) rfl hK 0 (cI := cI) rfl hP hD hS hA (fun _ => rfl) (by decide) (by decide) (by decide) (Nat.le_of_ble_eq_true rfl) (Nat.le_of_ble_eq_true rfl) dX12_init_24 (fun q5 H hP hD hS => ?_)
  have hP : va_P (dC, dI) vwCl [(h0, .inr (12, fs_4)), (q1, .inl (cI, 4000, (.inl (fun _ => 0)))), (q3, .inl (cI, 6, (.inl (fun _ => 0)))), (q5, .inl (cI, 49152, (.inl (fun _ => 0))))] H := hP
  have hD : va_D A [(h0, .inr (12, fs_4)), (q1, .inl (cI, 4000, (.inl (fun _ => 0)))), (q3, .inl (cI, 6, (.inl (fun _ => 0)))), (q5, .inl (cI, 49152, (.inl (fun _ => 0))))] := hD
  refine W.widen (k := 3) (n := 53158) (by decide) (by decide) ?_
  refine va_putF (D := (dC, dI)) (ci := 12) (v := .ref q5) (ty := .array (.int)) (C := RX12) (T := TX12) (N := 172) hx hb hts inX12_init_c12 tyX12 tyX12_ok nmX12 hown hK hP hD hS 0 rfl rfl 5 (by decide) (hts (.fieldLink RX12 17 "DiskEvidenceModel" "data" "[I") (List.mem_of_getElem? (i := 8) rfl)) (fun _ h9 => h9) rfl hin rfl (by decide +kernel) rfl rfl (by rw [hfl_4]; decide) dX12_init_26 (fun H locs hP hD hS => ?_)
  have hP : va_P (dC, dI) vwCl [(h0, .inr (12, (fs_4.set 5 (.ref q5)))), (q1, .inl (cI, 4000, (.inl (fun _ => 0)))), (q3, .inl (cI, 6, (.inl (fun _ => 0)))), (q5, .inl (cI, 49152, (.inl (fun _ => 0))))] H := hP
  have hD : va_D A [(h0, .inr (12, (fs_4.set 5 (.ref q5)))), (q1, .inl (cI, 4000, (.inl (fun _ => 0)))), (q3, .inl (cI, 6, (.inl (fun _ => 0)))), (q5, .inl (cI, 49152, (.inl (fun _ => 0))))] := hD
  obtain ⟨fs_6, efs_6⟩ : ∃ y, y = (fs_4.set 5 (.ref q5)) := ⟨_, rfl⟩
  rw [← efs_6] at hP hD
  have hfl_6 : fs_6.length = 172 := by rw [efs_6, List.length_set]; exact hfl_4
  refine lv_aload_n hx hb dX12_init_29 rfl (lv_at hl 0 rfl) ?_
  refine lv_sipush (v := 768) hx hb dX12_init_30 (by decide) ?_
  refine nw_arr (atype := .boolean) (N' := 768) (a0 := (768, (.inl (fun _ => 0)))) hx hb (hts (.arrayClass .boolean) (List.mem_of_getElem? (i := 9) rfl)) rfl hK 2 (cI := cZ) rfl hP hD hS hA (fun _ => rfl) (by decide) (by decide) (by decide) (Nat.le_of_ble_eq_true rfl) (Nat.le_of_ble_eq_true rfl) dX12_init_33 (fun q7 H hP hD hS => ?_)
  have hP : va_P (dC, dI) vwCl [(h0, .inr (12, fs_6)), (q1, .inl (cI, 4000, (.inl (fun _ => 0)))), (q3, .inl (cI, 6, (.inl (fun _ => 0)))), (q5, .inl (cI, 49152, (.inl (fun _ => 0)))), (q7, .inl (cZ, 768, (.inl (fun _ => 0))))] H := hP
  have hD : va_D A [(h0, .inr (12, fs_6)), (q1, .inl (cI, 4000, (.inl (fun _ => 0)))), (q3, .inl (cI, 6, (.inl (fun _ => 0)))), (q5, .inl (cI, 49152, (.inl (fun _ => 0)))), (q7, .inl (cZ, 768, (.inl (fun _ => 0))))] := hD
  refine W.widen (k := 4) (n := 53926) (by decide) (by decide) ?_
  refine va_putF (D := (dC, dI)) (ci := 12) (v := .ref q7) (ty := .array (.boolean)) (C := RX12) (T := TX12) (N := 172) hx hb hts inX12_init_c12 tyX12 tyX12_ok nmX12 hown hK hP hD hS 0 rfl rfl 6 (by decide) (hts (.fieldLink RX12 20 "DiskEvidenceModel" "isSpoilt" "[Z") (List.mem_of_getElem? (i := 10) rfl)) (fun _ h9 => h9) rfl hin rfl (by decide +kernel) rfl rfl (by rw [hfl_6]; decide) dX12_init_35 (fun H locs hP hD hS => ?_)
  have hP : va_P (dC, dI) vwCl [(h0, .inr (12, (fs_6.set 6 (.ref q7)))), (q1, .inl (cI, 4000, (.inl (fun _ => 0)))), (q3, .inl (cI, 6, (.inl (fun _ => 0)))), (q5, .inl (cI, 49152, (.inl (fun _ => 0)))), (q7, .inl (cZ, 768, (.inl (fun _ => 0))))] H := hP
  have hD : va_D A [(h0, .inr (12, (fs_6.set 6 (.ref q7)))), (q1, .inl (cI, 4000, (.inl (fun _ => 0)))), (q3, .inl (cI, 6, (.inl (fun _ => 0)))), (q5, .inl (cI, 49152, (.inl (fun _ => 0)))), (q7, .inl (cZ, 768, (.inl (fun _ => 0))))] := hD
  obtain ⟨fs_8, efs_8⟩ : ∃ y, y = (fs_6.set 6 (.ref q7)) := ⟨_, rfl⟩
  rw [← efs_8] at hP hD
  have hfl_8 : fs_8.length = 172 := by rw [efs_8, List.length_set]; exact hfl_6
  refine lv_aload_n hx hb dX12_init_38 rfl (lv_at hl 0 rfl) ?_
  refine lv_bipush (v := 12) hx hb dX12_init_39 (by decide) ?_
  refine nw_arr (atype := .int) (N' := 12) (a0 := (12, (.inl (fun _ => 0)))) hx hb (hts (.arrayClass .int) (List.mem_of_getElem? (i := 4) rfl)) rfl hK 0 (cI := cI) rfl hP hD hS hA (fun _ => rfl) (by decide) (by decide) (by decide) (Nat.le_of_ble_eq_true rfl) (Nat.le_of_ble_eq_true rfl) dX12_init_41 (fun q9 H hP hD hS => ?_)
  have hP : va_P (dC, dI) vwCl [(h0, .inr (12, fs_8)), (q1, .inl (cI, 4000, (.inl (fun _ => 0)))), (q3, .inl (cI, 6, (.inl (fun _ => 0)))), (q5, .inl (cI, 49152, (.inl (fun _ => 0)))), (q7, .inl (cZ, 768, (.inl (fun _ => 0)))), (q9, .inl (cI, 12, (.inl (fun _ => 0))))] H := hP
  have hD : va_D A [(h0, .inr (12, fs_8)), (q1, .inl (cI, 4000, (.inl (fun _ => 0)))), (q3, .inl (cI, 6, (.inl (fun _ => 0)))), (q5, .inl (cI, 49152, (.inl (fun _ => 0)))), (q7, .inl (cZ, 768, (.inl (fun _ => 0)))), (q9, .inl (cI, 12, (.inl (fun _ => 0))))] := hD
  refine W.widen (k := 5) (n := 53938) (by decide) (by decide) ?_
  refine va_putF (D := (dC, dI)) (ci := 12) (v := .ref q9) (ty := .array (.int)) (C := RX12) (T := TX12) (N := 172) hx hb hts inX12_init_c12 tyX12 tyX12_ok nmX12 hown hK hP hD hS 0 rfl rfl 8 (by decide) (hts (.fieldLink RX12 24 "DiskEvidenceModel" "sort" "[I") (List.mem_of_getElem? (i := 11) rfl)) (fun _ h9 => h9) rfl hin rfl (by decide +kernel) rfl rfl (by rw [hfl_8]; decide) dX12_init_43 (fun H locs hP hD hS => ?_)
  have hP : va_P (dC, dI) vwCl [(h0, .inr (12, (fs_8.set 8 (.ref q9)))), (q1, .inl (cI, 4000, (.inl (fun _ => 0)))), (q3, .inl (cI, 6, (.inl (fun _ => 0)))), (q5, .inl (cI, 49152, (.inl (fun _ => 0)))), (q7, .inl (cZ, 768, (.inl (fun _ => 0)))), (q9, .inl (cI, 12, (.inl (fun _ => 0))))] H := hP
  have hD : va_D A [(h0, .inr (12, (fs_8.set 8 (.ref q9)))), (q1, .inl (cI, 4000, (.inl (fun _ => 0)))), (q3, .inl (cI, 6, (.inl (fun _ => 0)))), (q5, .inl (cI, 49152, (.inl (fun _ => 0)))), (q7, .inl (cZ, 768, (.inl (fun _ => 0)))), (q9, .inl (cI, 12, (.inl (fun _ => 0))))] := hD
  obtain ⟨fs_10, efs_10⟩ : ∃ y, y = (fs_8.set 8 (.ref q9)) := ⟨_, rfl⟩
  rw [← efs_10] at hP hD
  have hfl_10 : fs_10.length = 172 := by rw [efs_10, List.length_set]; exact hfl_8
  have hP := hP.sub (ws' := [(h0, .inr (12, fs_10)), (q1, .inl (cI, 4000, (.inl (fun _ => 0)))), (q3, .inl (cI, 6, (.inl (fun _ => 0)))), (q5, .inl (cI, 49152, (.inl (fun _ => 0)))), (q7, .inl (cZ, 768, (.inl (fun _ => 0))))]) [0, 1, 2, 3, 4] rfl
  have hD := hD.sub (ws' := [(h0, .inr (12, fs_10)), (q1, .inl (cI, 4000, (.inl (fun _ => 0)))), (q3, .inl (cI, 6, (.inl (fun _ => 0)))), (q5, .inl (cI, 49152, (.inl (fun _ => 0)))), (q7, .inl (cZ, 768, (.inl (fun _ => 0))))]) [0, 1, 2, 3, 4] (by decide) rfl
  refine lv_aload_n hx hb dX12_init_46 rfl (lv_at hl 0 rfl) ?_
  refine lv_bipush (v := 12) hx hb dX12_init_47 (by decide) ?_
  refine nw_arr (atype := .int) (N' := 12) (a0 := (12, (.inl (fun _ => 0)))) hx hb (hts (.arrayClass .int) (List.mem_of_getElem? (i := 4) rfl)) rfl hK 0 (cI := cI) rfl hP hD hS hA (fun _ => rfl) (by decide) (by decide) (by decide) (Nat.le_of_ble_eq_true rfl) (Nat.le_of_ble_eq_true rfl) dX12_init_49 (fun q11 H hP hD hS => ?_)
  have hP : va_P (dC, dI) vwCl [(h0, .inr (12, fs_10)), (q1, .inl (cI, 4000, (.inl (fun _ => 0)))), (q3, .inl (cI, 6, (.inl (fun _ => 0)))), (q5, .inl (cI, 49152, (.inl (fun _ => 0)))), (q7, .inl (cZ, 768, (.inl (fun _ => 0)))), (q11, .inl (cI, 12, (.inl (fun _ => 0))))] H := hP
  have hD : va_D A [(h0, .inr (12, fs_10)), (q1, .inl (cI, 4000, (.inl (fun _ => 0)))), (q3, .inl (cI, 6, (.inl (fun _ => 0)))), (q5, .inl (cI, 49152, (.inl (fun _ => 0)))), (q7, .inl (cZ, 768, (.inl (fun _ => 0)))), (q11, .inl (cI, 12, (.inl (fun _ => 0))))] := hD
  refine W.widen (k := 6) (n := 53950) (by decide) (by decide) ?_
  refine va_putF (D := (dC, dI)) (ci := 12) (v := .ref q11) (ty := .array (.int)) (C := RX12) (T := TX12) (N := 172) hx hb hts inX12_init_c12 tyX12 tyX12_ok nmX12 hown hK hP hD hS 0 rfl rfl 9 (by decide) (hts (.fieldLink RX12 27 "DiskEvidenceModel" "pictureOf" "[I") (List.mem_of_getElem? (i := 12) rfl)) (fun _ h9 => h9) rfl hin rfl (by decide +kernel) rfl rfl (by rw [hfl_10]; decide) dX12_init_51 (fun H locs hP hD hS => ?_)
  have hP : va_P (dC, dI) vwCl [(h0, .inr (12, (fs_10.set 9 (.ref q11)))), (q1, .inl (cI, 4000, (.inl (fun _ => 0)))), (q3, .inl (cI, 6, (.inl (fun _ => 0)))), (q5, .inl (cI, 49152, (.inl (fun _ => 0)))), (q7, .inl (cZ, 768, (.inl (fun _ => 0)))), (q11, .inl (cI, 12, (.inl (fun _ => 0))))] H := hP
  have hD : va_D A [(h0, .inr (12, (fs_10.set 9 (.ref q11)))), (q1, .inl (cI, 4000, (.inl (fun _ => 0)))), (q3, .inl (cI, 6, (.inl (fun _ => 0)))), (q5, .inl (cI, 49152, (.inl (fun _ => 0)))), (q7, .inl (cZ, 768, (.inl (fun _ => 0)))), (q11, .inl (cI, 12, (.inl (fun _ => 0))))] := hD
  obtain ⟨fs_12, efs_12⟩ : ∃ y, y = (fs_10.set 9 (.ref q11)) := ⟨_, rfl⟩
  rw [← efs_12] at hP hD
  have hfl_12 : fs_12.length = 172 := by rw [efs_12, List.length_set]; exact hfl_10
  have hP := hP.sub (ws' := [(h0, .inr (12, fs_12)), (q1, .inl (cI, 4000, (.inl (fun _ => 0)))), (q3, .inl (cI, 6, (.inl (fun _ => 0)))), (q5, .inl (cI, 49152, (.inl (fun _ => 0)))), (q7, .inl (cZ, 768, (.inl (fun _ => 0))))]) [0, 1, 2, 3, 4] rfl
  have hD := hD.sub (ws' := [(h0, .inr (12, fs_12)), (q1, .inl (cI, 4000, (.inl (fun _ => 0)))), (q3, .inl (cI, 6, (.inl (fun _ => 0)))), (q5, .inl (cI, 49152, (.inl (fun _ => 0)))), (q7, .inl (cZ, 768, (.inl (fun _ => 0))))]) [0, 1, 2, 3, 4] (by decide) rfl
  refine lv_aload_n hx hb dX12_init_54 rfl (lv_at hl 0 rfl) ?_
  refine lv_bipush (v := 12) hx hb dX12_init_55 (by decide) ?_
  refine nw_arr (atype := .int) (N' := 12) (a0 := (12, (.inl (fun _ => 0)))) hx hb (hts (.arrayClass .int) (List.mem_of_getElem? (i := 4) rfl)) rfl hK 0 (cI := cI) rfl hP hD hS hA (fun _ => rfl) (by decide) (by decide) (by decide) (Nat.le_of_ble_eq_true rfl) (Nat.le_of_ble_eq_true rfl) dX12_init_57 (fun q13 H hP hD hS => ?_)
  have hP : va_P (dC, dI) vwCl [(h0, .inr (12, fs_12)), (q1, .inl (cI, 4000, (.inl (fun _ => 0)))), (q3, .inl (cI, 6, (.inl (fun _ => 0)))), (q5, .inl (cI, 49152, (.inl (fun _ => 0)))), (q7, .inl (cZ, 768, (.inl (fun _ => 0)))), (q13, .inl (cI, 12, (.inl (fun _ => 0))))] H := hP
  have hD : va_D A [(h0, .inr (12, fs_12)), (q1, .inl (cI, 4000, (.inl (fun _ => 0)))), (q3, .inl (cI, 6, (.inl (fun _ => 0)))), (q5, .inl (cI, 49152, (.inl (fun _ => 0)))), (q7, .inl (cZ, 768, (.inl (fun _ => 0)))), (q13, .inl (cI, 12, (.inl (fun _ => 0))))] := hD
  refine W.widen (k := 7) (n := 53962) (by decide) (by decide) ?_
  refine va_putF (D := (dC, dI)) (ci := 12) (v := .ref q13) (ty := .array (.int)) (C := RX12) (T := TX12) (N := 172) hx hb hts inX12_init_c12 tyX12 tyX12_ok nmX12 hown hK hP hD hS 0 rfl rfl 10 (by decide) (hts (.fieldLink RX12 30 "DiskEvidenceModel" "beginOf" "[I") (List.mem_of_getElem? (i := 13) rfl)) (fun _ h9 => h9) rfl hin rfl (by decide +kernel) rfl rfl (by rw [hfl_12]; decide) dX12_init_59 (fun H locs hP hD hS => ?_)
  have hP : va_P (dC, dI) vwCl [(h0, .inr (12, (fs_12.set 10 (.ref q13)))), (q1, .inl (cI, 4000, (.inl (fun _ => 0)))), (q3, .inl (cI, 6, (.inl (fun _ => 0)))), (q5, .inl (cI, 49152, (.inl (fun _ => 0)))), (q7, .inl (cZ, 768, (.inl (fun _ => 0)))), (q13, .inl (cI, 12, (.inl (fun _ => 0))))] H := hP
  have hD : va_D A [(h0, .inr (12, (fs_12.set 10 (.ref q13)))), (q1, .inl (cI, 4000, (.inl (fun _ => 0)))), (q3, .inl (cI, 6, (.inl (fun _ => 0)))), (q5, .inl (cI, 49152, (.inl (fun _ => 0)))), (q7, .inl (cZ, 768, (.inl (fun _ => 0)))), (q13, .inl (cI, 12, (.inl (fun _ => 0))))] := hD
  obtain ⟨fs_14, efs_14⟩ : ∃ y, y = (fs_12.set 10 (.ref q13)) := ⟨_, rfl⟩
  rw [← efs_14] at hP hD
  have hfl_14 : fs_14.length = 172 := by rw [efs_14, List.length_set]; exact hfl_12
  have hP := hP.sub (ws' := [(h0, .inr (12, fs_14)), (q1, .inl (cI, 4000, (.inl (fun _ => 0)))), (q3, .inl (cI, 6, (.inl (fun _ => 0)))), (q5, .inl (cI, 49152, (.inl (fun _ => 0)))), (q7, .inl (cZ, 768, (.inl (fun _ => 0))))]) [0, 1, 2, 3, 4] rfl
  have hD := hD.sub (ws' := [(h0, .inr (12, fs_14)), (q1, .inl (cI, 4000, (.inl (fun _ => 0)))), (q3, .inl (cI, 6, (.inl (fun _ => 0)))), (q5, .inl (cI, 49152, (.inl (fun _ => 0)))), (q7, .inl (cZ, 768, (.inl (fun _ => 0))))]) [0, 1, 2, 3, 4] (by decide) rfl
  refine lv_aload_n hx hb dX12_init_62 rfl (lv_at hl 0 rfl) ?_
  refine lv_bipush (v := 12) hx hb dX12_init_63 (by decide) ?_
  refine nw_arr (atype := .int) (N' := 12) (a0 := (12, (.inl (fun _ => 0)))) hx hb (hts (.arrayClass .int) (List.mem_of_getElem? (i := 4) rfl)) rfl hK 0 (cI := cI) rfl hP hD hS hA (fun _ => rfl) (by decide) (by decide) (by decide) (Nat.le_of_ble_eq_true rfl) (Nat.le_of_ble_eq_true rfl) dX12_init_65 (fun q15 H hP hD hS => ?_)
  have hP : va_P (dC, dI) vwCl [(h0, .inr (12, fs_14)), (q1, .inl (cI, 4000, (.inl (fun _ => 0)))), (q3, .inl (cI, 6, (.inl (fun _ => 0)))), (q5, .inl (cI, 49152, (.inl (fun _ => 0)))), (q7, .inl (cZ, 768, (.inl (fun _ => 0)))), (q15, .inl (cI, 12, (.inl (fun _ => 0))))] H := hP
  have hD : va_D A [(h0, .inr (12, fs_14)), (q1, .inl (cI, 4000, (.inl (fun _ => 0)))), (q3, .inl (cI, 6, (.inl (fun _ => 0)))), (q5, .inl (cI, 49152, (.inl (fun _ => 0)))), (q7, .inl (cZ, 768, (.inl (fun _ => 0)))), (q15, .inl (cI, 12, (.inl (fun _ => 0))))] := hD
  refine W.widen (k := 8) (n := 53974) (by decide) (by decide) ?_
  refine va_putF (D := (dC, dI)) (ci := 12) (v := .ref q15) (ty := .array (.int)) (C := RX12) (T := TX12) (N := 172) hx hb hts inX12_init_c12 tyX12 tyX12_ok nmX12 hown hK hP hD hS 0 rfl rfl 11 (by decide) (hts (.fieldLink RX12 33 "DiskEvidenceModel" "blocksOf" "[I") (List.mem_of_getElem? (i := 14) rfl)) (fun _ h9 => h9) rfl hin rfl (by decide +kernel) rfl rfl (by rw [hfl_14]; decide) dX12_init_67 (fun H locs hP hD hS => ?_)
  have hP : va_P (dC, dI) vwCl [(h0, .inr (12, (fs_14.set 11 (.ref q15)))), (q1, .inl (cI, 4000, (.inl (fun _ => 0)))), (q3, .inl (cI, 6, (.inl (fun _ => 0)))), (q5, .inl (cI, 49152, (.inl (fun _ => 0)))), (q7, .inl (cZ, 768, (.inl (fun _ => 0)))), (q15, .inl (cI, 12, (.inl (fun _ => 0))))] H := hP
  have hD : va_D A [(h0, .inr (12, (fs_14.set 11 (.ref q15)))), (q1, .inl (cI, 4000, (.inl (fun _ => 0)))), (q3, .inl (cI, 6, (.inl (fun _ => 0)))), (q5, .inl (cI, 49152, (.inl (fun _ => 0)))), (q7, .inl (cZ, 768, (.inl (fun _ => 0)))), (q15, .inl (cI, 12, (.inl (fun _ => 0))))] := hD
  obtain ⟨fs_16, efs_16⟩ : ∃ y, y = (fs_14.set 11 (.ref q15)) := ⟨_, rfl⟩
  rw [← efs_16] at hP hD
  have hfl_16 : fs_16.length = 172 := by rw [efs_16, List.length_set]; exact hfl_14
  have hP := hP.sub (ws' := [(h0, .inr (12, fs_16)), (q1, .inl (cI, 4000, (.inl (fun _ => 0)))), (q3, .inl (cI, 6, (.inl (fun _ => 0)))), (q5, .inl (cI, 49152, (.inl (fun _ => 0)))), (q7, .inl (cZ, 768, (.inl (fun _ => 0))))]) [0, 1, 2, 3, 4] rfl
  have hD := hD.sub (ws' := [(h0, .inr (12, fs_16)), (q1, .inl (cI, 4000, (.inl (fun _ => 0)))), (q3, .inl (cI, 6, (.inl (fun _ => 0)))), (q5, .inl (cI, 49152, (.inl (fun _ => 0)))), (q7, .inl (cZ, 768, (.inl (fun _ => 0))))]) [0, 1, 2, 3, 4] (by decide) rfl
  refine lv_aload_n hx hb dX12_init_70 rfl (lv_at hl 0 rfl) ?_
  refine lv_bipush (v := 36) hx hb dX12_init_71 (by decide) ?_
  refine nw_arr (atype := .int) (N' := 36) (a0 := (36, (.inl (fun _ => 0)))) hx hb (hts (.arrayClass .int) (List.mem_of_getElem? (i := 4) rfl)) rfl hK 0 (cI := cI) rfl hP hD hS hA (fun _ => rfl) (by decide) (by decide) (by decide) (Nat.le_of_ble_eq_true rfl) (Nat.le_of_ble_eq_true rfl) dX12_init_73 (fun q17 H hP hD hS => ?_)
  have hP : va_P (dC, dI) vwCl [(h0, .inr (12, fs_16)), (q1, .inl (cI, 4000, (.inl (fun _ => 0)))), (q3, .inl (cI, 6, (.inl (fun _ => 0)))), (q5, .inl (cI, 49152, (.inl (fun _ => 0)))), (q7, .inl (cZ, 768, (.inl (fun _ => 0)))), (q17, .inl (cI, 36, (.inl (fun _ => 0))))] H := hP
  have hD : va_D A [(h0, .inr (12, fs_16)), (q1, .inl (cI, 4000, (.inl (fun _ => 0)))), (q3, .inl (cI, 6, (.inl (fun _ => 0)))), (q5, .inl (cI, 49152, (.inl (fun _ => 0)))), (q7, .inl (cZ, 768, (.inl (fun _ => 0)))), (q17, .inl (cI, 36, (.inl (fun _ => 0))))] := hD
  refine W.widen (k := 9) (n := 54010) (by decide) (by decide) ?_
  refine va_putF (D := (dC, dI)) (ci := 12) (v := .ref q17) (ty := .array (.int)) (C := RX12) (T := TX12) (N := 172) hx hb hts inX12_init_c12 tyX12 tyX12_ok nmX12 hown hK hP hD hS 0 rfl rfl 12 (by decide) (hts (.fieldLink RX12 36 "DiskEvidenceModel" "members" "[I") (List.mem_of_getElem? (i := 15) rfl)) (fun _ h9 => h9) rfl hin rfl (by decide +kernel) rfl rfl (by rw [hfl_16]; decide) dX12_init_75 (fun H locs hP hD hS => ?_)
  have hP : va_P (dC, dI) vwCl [(h0, .inr (12, (fs_16.set 12 (.ref q17)))), (q1, .inl (cI, 4000, (.inl (fun _ => 0)))), (q3, .inl (cI, 6, (.inl (fun _ => 0)))), (q5, .inl (cI, 49152, (.inl (fun _ => 0)))), (q7, .inl (cZ, 768, (.inl (fun _ => 0)))), (q17, .inl (cI, 36, (.inl (fun _ => 0))))] H := hP
  have hD : va_D A [(h0, .inr (12, (fs_16.set 12 (.ref q17)))), (q1, .inl (cI, 4000, (.inl (fun _ => 0)))), (q3, .inl (cI, 6, (.inl (fun _ => 0)))), (q5, .inl (cI, 49152, (.inl (fun _ => 0)))), (q7, .inl (cZ, 768, (.inl (fun _ => 0)))), (q17, .inl (cI, 36, (.inl (fun _ => 0))))] := hD
  obtain ⟨fs_18, efs_18⟩ : ∃ y, y = (fs_16.set 12 (.ref q17)) := ⟨_, rfl⟩
  rw [← efs_18] at hP hD
  have hfl_18 : fs_18.length = 172 := by rw [efs_18, List.length_set]; exact hfl_16
  have hP := hP.sub (ws' := [(h0, .inr (12, fs_18)), (q1, .inl (cI, 4000, (.inl (fun _ => 0)))), (q3, .inl (cI, 6, (.inl (fun _ => 0)))), (q5, .inl (cI, 49152, (.inl (fun _ => 0)))), (q7, .inl (cZ, 768, (.inl (fun _ => 0))))]) [0, 1, 2, 3, 4] rfl
  have hD := hD.sub (ws' := [(h0, .inr (12, fs_18)), (q1, .inl (cI, 4000, (.inl (fun _ => 0)))), (q3, .inl (cI, 6, (.inl (fun _ => 0)))), (q5, .inl (cI, 49152, (.inl (fun _ => 0)))), (q7, .inl (cZ, 768, (.inl (fun _ => 0))))]) [0, 1, 2, 3, 4] (by decide) rfl
  refine lv_aload_n hx hb dX12_init_78 rfl (lv_at hl 0 rfl) ?_
  refine lv_ldc (v := 196608) hx hb hown (hts (.constant RX12 39 (196608)) (List.mem_of_getElem? (i := 16) rfl)) dX12_init_79 ?_
  refine nw_arr (atype := .int) (N' := 196608) (a0 := (196608, (.inl (fun _ => 0)))) hx hb (hts (.arrayClass .int) (List.mem_of_getElem? (i := 4) rfl)) rfl hK 0 (cI := cI) rfl hP hD hS hA (fun _ => rfl) (by decide) (by decide) (by decide) (Nat.le_of_ble_eq_true rfl) (Nat.le_of_ble_eq_true rfl) dX12_init_81 (fun q19 H hP hD hS => ?_)
  have hP : va_P (dC, dI) vwCl [(h0, .inr (12, fs_18)), (q1, .inl (cI, 4000, (.inl (fun _ => 0)))), (q3, .inl (cI, 6, (.inl (fun _ => 0)))), (q5, .inl (cI, 49152, (.inl (fun _ => 0)))), (q7, .inl (cZ, 768, (.inl (fun _ => 0)))), (q19, .inl (cI, 196608, (.inl (fun _ => 0))))] H := hP
  have hD : va_D A [(h0, .inr (12, fs_18)), (q1, .inl (cI, 4000, (.inl (fun _ => 0)))), (q3, .inl (cI, 6, (.inl (fun _ => 0)))), (q5, .inl (cI, 49152, (.inl (fun _ => 0)))), (q7, .inl (cZ, 768, (.inl (fun _ => 0)))), (q19, .inl (cI, 196608, (.inl (fun _ => 0))))] := hD
  refine W.widen (k := 10) (n := 250618) (by decide) (by decide) ?_
  refine va_putF (D := (dC, dI)) (ci := 12) (v := .ref q19) (ty := .array (.int)) (C := RX12) (T := TX12) (N := 172) hx hb hts inX12_init_c12 tyX12 tyX12_ok nmX12 hown hK hP hD hS 0 rfl rfl 13 (by decide) (hts (.fieldLink RX12 40 "DiskEvidenceModel" "all" "[I") (List.mem_of_getElem? (i := 17) rfl)) (fun _ h9 => h9) rfl hin rfl (by decide +kernel) rfl rfl (by rw [hfl_18]; decide) dX12_init_83 (fun H locs hP hD hS => ?_)
  have hP : va_P (dC, dI) vwCl [(h0, .inr (12, (fs_18.set 13 (.ref q19)))), (q1, .inl (cI, 4000, (.inl (fun _ => 0)))), (q3, .inl (cI, 6, (.inl (fun _ => 0)))), (q5, .inl (cI, 49152, (.inl (fun _ => 0)))), (q7, .inl (cZ, 768, (.inl (fun _ => 0)))), (q19, .inl (cI, 196608, (.inl (fun _ => 0))))] H := hP
  have hD : va_D A [(h0, .inr (12, (fs_18.set 13 (.ref q19)))), (q1, .inl (cI, 4000, (.inl (fun _ => 0)))), (q3, .inl (cI, 6, (.inl (fun _ => 0)))), (q5, .inl (cI, 49152, (.inl (fun _ => 0)))), (q7, .inl (cZ, 768, (.inl (fun _ => 0)))), (q19, .inl (cI, 196608, (.inl (fun _ => 0))))] := hD
  obtain ⟨fs_20, efs_20⟩ : ∃ y, y = (fs_18.set 13 (.ref q19)) := ⟨_, rfl⟩
  rw [← efs_20] at hP hD
  have hfl_20 : fs_20.length = 172 := by rw [efs_20, List.length_set]; exact hfl_18
  have hP := hP.sub (ws' := [(h0, .inr (12, fs_20)), (q1, .inl (cI, 4000, (.inl (fun _ => 0)))), (q3, .inl (cI, 6, (.inl (fun _ => 0)))), (q5, .inl (cI, 49152, (.inl (fun _ => 0)))), (q7, .inl (cZ, 768, (.inl (fun _ => 0))))]) [0, 1, 2, 3, 4] rfl
  have hD := hD.sub (ws' := [(h0, .inr (12, fs_20)), (q1, .inl (cI, 4000, (.inl (fun _ => 0)))), (q3, .inl (cI, 6, (.inl (fun _ => 0)))), (q5, .inl (cI, 49152, (.inl (fun _ => 0)))), (q7, .inl (cZ, 768, (.inl (fun _ => 0))))]) [0, 1, 2, 3, 4] (by decide) rfl
  refine lv_aload_n hx hb dX12_init_86 rfl (lv_at hl 0 rfl) ?_
  refine lv_sipush (v := 3072) hx hb dX12_init_87 (by decide) ?_
  refine nw_arr (atype := .boolean) (N' := 3072) (a0 := (3072, (.inl (fun _ => 0)))) hx hb (hts (.arrayClass .boolean) (List.mem_of_getElem? (i := 9) rfl)) rfl hK 2 (cI := cZ) rfl hP hD hS hA (fun _ => rfl) (by decide) (by decide) (by decide) (Nat.le_of_ble_eq_true rfl) (Nat.le_of_ble_eq_true rfl) dX12_init_90 (fun q21 H hP hD hS => ?_)
  have hP : va_P (dC, dI) vwCl [(h0, .inr (12, fs_20)), (q1, .inl (cI, 4000, (.inl (fun _ => 0)))), (q3, .inl (cI, 6, (.inl (fun _ => 0)))), (q5, .inl (cI, 49152, (.inl (fun _ => 0)))), (q7, .inl (cZ, 768, (.inl (fun _ => 0)))), (q21, .inl (cZ, 3072, (.inl (fun _ => 0))))] H := hP
  have hD : va_D A [(h0, .inr (12, fs_20)), (q1, .inl (cI, 4000, (.inl (fun _ => 0)))), (q3, .inl (cI, 6, (.inl (fun _ => 0)))), (q5, .inl (cI, 49152, (.inl (fun _ => 0)))), (q7, .inl (cZ, 768, (.inl (fun _ => 0)))), (q21, .inl (cZ, 3072, (.inl (fun _ => 0))))] := hD
  refine W.widen (k := 11) (n := 253690) (by decide) (by decide) ?_
  refine va_putF (D := (dC, dI)) (ci := 12) (v := .ref q21) (ty := .array (.boolean)) (C := RX12) (T := TX12) (N := 172) hx hb hts inX12_init_c12 tyX12 tyX12_ok nmX12 hown hK hP hD hS 0 rfl rfl 14 (by decide) (hts (.fieldLink RX12 43 "DiskEvidenceModel" "comesSpoilt" "[Z") (List.mem_of_getElem? (i := 18) rfl)) (fun _ h9 => h9) rfl hin rfl (by decide +kernel) rfl rfl (by rw [hfl_20]; decide) dX12_init_92 (fun H locs hP hD hS => ?_)
  have hP : va_P (dC, dI) vwCl [(h0, .inr (12, (fs_20.set 14 (.ref q21)))), (q1, .inl (cI, 4000, (.inl (fun _ => 0)))), (q3, .inl (cI, 6, (.inl (fun _ => 0)))), (q5, .inl (cI, 49152, (.inl (fun _ => 0)))), (q7, .inl (cZ, 768, (.inl (fun _ => 0)))), (q21, .inl (cZ, 3072, (.inl (fun _ => 0))))] H := hP
  have hD : va_D A [(h0, .inr (12, (fs_20.set 14 (.ref q21)))), (q1, .inl (cI, 4000, (.inl (fun _ => 0)))), (q3, .inl (cI, 6, (.inl (fun _ => 0)))), (q5, .inl (cI, 49152, (.inl (fun _ => 0)))), (q7, .inl (cZ, 768, (.inl (fun _ => 0)))), (q21, .inl (cZ, 3072, (.inl (fun _ => 0))))] := hD
  obtain ⟨fs_22, efs_22⟩ : ∃ y, y = (fs_20.set 14 (.ref q21)) := ⟨_, rfl⟩
  rw [← efs_22] at hP hD
  have hfl_22 : fs_22.length = 172 := by rw [efs_22, List.length_set]; exact hfl_20
  have hP := hP.sub (ws' := [(h0, .inr (12, fs_22)), (q1, .inl (cI, 4000, (.inl (fun _ => 0)))), (q3, .inl (cI, 6, (.inl (fun _ => 0)))), (q5, .inl (cI, 49152, (.inl (fun _ => 0)))), (q7, .inl (cZ, 768, (.inl (fun _ => 0))))]) [0, 1, 2, 3, 4] rfl
  have hD := hD.sub (ws' := [(h0, .inr (12, fs_22)), (q1, .inl (cI, 4000, (.inl (fun _ => 0)))), (q3, .inl (cI, 6, (.inl (fun _ => 0)))), (q5, .inl (cI, 49152, (.inl (fun _ => 0)))), (q7, .inl (cZ, 768, (.inl (fun _ => 0))))]) [0, 1, 2, 3, 4] (by decide) rfl
  refine lv_aload_n hx hb dX12_init_95 rfl (lv_at hl 0 rfl) ?_
  refine lv_iconst (v := 1) hx hb dX12_init_96 (by decide) ?_
  refine va_put (D := (dC, dI)) (ci := 12) (v := .int 1) (ty := .boolean) (C := RX12) (T := TX12) (N := 172) hx hb hts inX12_init_c12 tyX12 tyX12_ok nmX12 hown hK hP hD hS 0 rfl rfl 15 (by decide) (hts (.fieldLink RX12 46 "DiskEvidenceModel" "isOld" "Z") (List.mem_of_getElem? (i := 19) rfl)) (fun _ h9 => h9) rfl (by decide +kernel) rfl rfl (by rw [hfl_22]; decide) dX12_init_97 (fun H locs hP hD hS => ?_)
  have hP : va_P (dC, dI) vwCl [(h0, .inr (12, (fs_22.set 15 (.int 1)))), (q1, .inl (cI, 4000, (.inl (fun _ => 0)))), (q3, .inl (cI, 6, (.inl (fun _ => 0)))), (q5, .inl (cI, 49152, (.inl (fun _ => 0)))), (q7, .inl (cZ, 768, (.inl (fun _ => 0))))] H := hP
  have hD : va_D A [(h0, .inr (12, (fs_22.set 15 (.int 1)))), (q1, .inl (cI, 4000, (.inl (fun _ => 0)))), (q3, .inl (cI, 6, (.inl (fun _ => 0)))), (q5, .inl (cI, 49152, (.inl (fun _ => 0)))), (q7, .inl (cZ, 768, (.inl (fun _ => 0))))] := hD
  obtain ⟨fs_23, efs_23⟩ : ∃ y, y = (fs_22.set 15 (.int 1)) := ⟨_, rfl⟩
  rw [← efs_23] at hP hD
  have hfl_23 : fs_23.length = 172 := by rw [efs_23, List.length_set]; exact hfl_22
  refine lv_aload_n hx hb dX12_init_100 rfl (lv_at hl 0 rfl) ?_
  refine lv_sipush (v := 768) hx hb dX12_init_101 (by decide) ?_
  refine nw_arr (atype := .boolean) (N' := 768) (a0 := (768, (.inl (fun _ => 0)))) hx hb (hts (.arrayClass .boolean) (List.mem_of_getElem? (i := 9) rfl)) rfl hK 2 (cI := cZ) rfl hP hD hS hA (fun _ => rfl) (by decide) (by decide) (by decide) (Nat.le_of_ble_eq_true rfl) (Nat.le_of_ble_eq_true rfl) dX12_init_104 (fun q24 H hP hD hS => ?_)
  have hP : va_P (dC, dI) vwCl [(h0, .inr (12, fs_23)), (q1, .inl (cI, 4000, (.inl (fun _ => 0)))), (q3, .inl (cI, 6, (.inl (fun _ => 0)))), (q5, .inl (cI, 49152, (.inl (fun _ => 0)))), (q7, .inl (cZ, 768, (.inl (fun _ => 0)))), (q24, .inl (cZ, 768, (.inl (fun _ => 0))))] H := hP
  have hD : va_D A [(h0, .inr (12, fs_23)), (q1, .inl (cI, 4000, (.inl (fun _ => 0)))), (q3, .inl (cI, 6, (.inl (fun _ => 0)))), (q5, .inl (cI, 49152, (.inl (fun _ => 0)))), (q7, .inl (cZ, 768, (.inl (fun _ => 0)))), (q24, .inl (cZ, 768, (.inl (fun _ => 0))))] := hD
  refine W.widen (k := 12) (n := 254458) (by decide) (by decide) ?_
  refine va_putF (D := (dC, dI)) (ci := 12) (v := .ref q24) (ty := .array (.boolean)) (C := RX12) (T := TX12) (N := 172) hx hb hts inX12_init_c12 tyX12 tyX12_ok nmX12 hown hK hP hD hS 0 rfl rfl 17 (by decide) (hts (.fieldLink RX12 50 "DiskEvidenceModel" "sectorChanged" "[Z") (List.mem_of_getElem? (i := 20) rfl)) (fun _ h9 => h9) rfl hin rfl (by decide +kernel) rfl rfl (by rw [hfl_23]; decide) dX12_init_106 (fun H locs hP hD hS => ?_)
  have hP : va_P (dC, dI) vwCl [(h0, .inr (12, (fs_23.set 17 (.ref q24)))), (q1, .inl (cI, 4000, (.inl (fun _ => 0)))), (q3, .inl (cI, 6, (.inl (fun _ => 0)))), (q5, .inl (cI, 49152, (.inl (fun _ => 0)))), (q7, .inl (cZ, 768, (.inl (fun _ => 0)))), (q24, .inl (cZ, 768, (.inl (fun _ => 0))))] H := hP
  have hD : va_D A [(h0, .inr (12, (fs_23.set 17 (.ref q24)))), (q1, .inl (cI, 4000, (.inl (fun _ => 0)))), (q3, .inl (cI, 6, (.inl (fun _ => 0)))), (q5, .inl (cI, 49152, (.inl (fun _ => 0)))), (q7, .inl (cZ, 768, (.inl (fun _ => 0)))), (q24, .inl (cZ, 768, (.inl (fun _ => 0))))] := hD
  obtain ⟨fs_25, efs_25⟩ : ∃ y, y = (fs_23.set 17 (.ref q24)) := ⟨_, rfl⟩
  rw [← efs_25] at hP hD
  have hfl_25 : fs_25.length = 172 := by rw [efs_25, List.length_set]; exact hfl_23
  have hP := hP.sub (ws' := [(h0, .inr (12, fs_25)), (q1, .inl (cI, 4000, (.inl (fun _ => 0)))), (q3, .inl (cI, 6, (.inl (fun _ => 0)))), (q5, .inl (cI, 49152, (.inl (fun _ => 0)))), (q7, .inl (cZ, 768, (.inl (fun _ => 0))))]) [0, 1, 2, 3, 4] rfl
  have hD := hD.sub (ws' := [(h0, .inr (12, fs_25)), (q1, .inl (cI, 4000, (.inl (fun _ => 0)))), (q3, .inl (cI, 6, (.inl (fun _ => 0)))), (q5, .inl (cI, 49152, (.inl (fun _ => 0)))), (q7, .inl (cZ, 768, (.inl (fun _ => 0))))]) [0, 1, 2, 3, 4] (by decide) rfl
  refine lv_aload_n hx hb dX12_init_109 rfl (lv_at hl 0 rfl) ?_
  refine lv_sipush (v := 3072) hx hb dX12_init_110 (by decide) ?_
  refine nw_arr (atype := .boolean) (N' := 3072) (a0 := (3072, (.inl (fun _ => 0)))) hx hb (hts (.arrayClass .boolean) (List.mem_of_getElem? (i := 9) rfl)) rfl hK 2 (cI := cZ) rfl hP hD hS hA (fun _ => rfl) (by decide) (by decide) (by decide) (Nat.le_of_ble_eq_true rfl) (Nat.le_of_ble_eq_true rfl) dX12_init_113 (fun q26 H hP hD hS => ?_)
  have hP : va_P (dC, dI) vwCl [(h0, .inr (12, fs_25)), (q1, .inl (cI, 4000, (.inl (fun _ => 0)))), (q3, .inl (cI, 6, (.inl (fun _ => 0)))), (q5, .inl (cI, 49152, (.inl (fun _ => 0)))), (q7, .inl (cZ, 768, (.inl (fun _ => 0)))), (q26, .inl (cZ, 3072, (.inl (fun _ => 0))))] H := hP
  have hD : va_D A [(h0, .inr (12, fs_25)), (q1, .inl (cI, 4000, (.inl (fun _ => 0)))), (q3, .inl (cI, 6, (.inl (fun _ => 0)))), (q5, .inl (cI, 49152, (.inl (fun _ => 0)))), (q7, .inl (cZ, 768, (.inl (fun _ => 0)))), (q26, .inl (cZ, 3072, (.inl (fun _ => 0))))] := hD
  refine W.widen (k := 13) (n := 257530) (by decide) (by decide) ?_
  refine va_putF (D := (dC, dI)) (ci := 12) (v := .ref q26) (ty := .array (.boolean)) (C := RX12) (T := TX12) (N := 172) hx hb hts inX12_init_c12 tyX12 tyX12_ok nmX12 hown hK hP hD hS 0 rfl rfl 18 (by decide) (hts (.fieldLink RX12 53 "DiskEvidenceModel" "blockChanged" "[Z") (List.mem_of_getElem? (i := 21) rfl)) (fun _ h9 => h9) rfl hin rfl (by decide +kernel) rfl rfl (by rw [hfl_25]; decide) dX12_init_115 (fun H locs hP hD hS => ?_)
  have hP : va_P (dC, dI) vwCl [(h0, .inr (12, (fs_25.set 18 (.ref q26)))), (q1, .inl (cI, 4000, (.inl (fun _ => 0)))), (q3, .inl (cI, 6, (.inl (fun _ => 0)))), (q5, .inl (cI, 49152, (.inl (fun _ => 0)))), (q7, .inl (cZ, 768, (.inl (fun _ => 0)))), (q26, .inl (cZ, 3072, (.inl (fun _ => 0))))] H := hP
  have hD : va_D A [(h0, .inr (12, (fs_25.set 18 (.ref q26)))), (q1, .inl (cI, 4000, (.inl (fun _ => 0)))), (q3, .inl (cI, 6, (.inl (fun _ => 0)))), (q5, .inl (cI, 49152, (.inl (fun _ => 0)))), (q7, .inl (cZ, 768, (.inl (fun _ => 0)))), (q26, .inl (cZ, 3072, (.inl (fun _ => 0))))] := hD
  obtain ⟨fs_27, efs_27⟩ : ∃ y, y = (fs_25.set 18 (.ref q26)) := ⟨_, rfl⟩
  rw [← efs_27] at hP hD
  have hfl_27 : fs_27.length = 172 := by rw [efs_27, List.length_set]; exact hfl_25
  have hP := hP.sub (ws' := [(h0, .inr (12, fs_27)), (q1, .inl (cI, 4000, (.inl (fun _ => 0)))), (q3, .inl (cI, 6, (.inl (fun _ => 0)))), (q5, .inl (cI, 49152, (.inl (fun _ => 0)))), (q7, .inl (cZ, 768, (.inl (fun _ => 0))))]) [0, 1, 2, 3, 4] rfl
  have hD := hD.sub (ws' := [(h0, .inr (12, fs_27)), (q1, .inl (cI, 4000, (.inl (fun _ => 0)))), (q3, .inl (cI, 6, (.inl (fun _ => 0)))), (q5, .inl (cI, 49152, (.inl (fun _ => 0)))), (q7, .inl (cZ, 768, (.inl (fun _ => 0))))]) [0, 1, 2, 3, 4] (by decide) rfl
  refine lv_aload_n hx hb dX12_init_118 rfl (lv_at hl 0 rfl) ?_
  refine lv_bipush (v := 64) hx hb dX12_init_119 (by decide) ?_
  refine nw_arr (atype := .int) (N' := 64) (a0 := (64, (.inl (fun _ => 0)))) hx hb (hts (.arrayClass .int) (List.mem_of_getElem? (i := 4) rfl)) rfl hK 0 (cI := cI) rfl hP hD hS hA (fun _ => rfl) (by decide) (by decide) (by decide) (Nat.le_of_ble_eq_true rfl) (Nat.le_of_ble_eq_true rfl) dX12_init_121 (fun q28 H hP hD hS => ?_)
  have hP : va_P (dC, dI) vwCl [(h0, .inr (12, fs_27)), (q1, .inl (cI, 4000, (.inl (fun _ => 0)))), (q3, .inl (cI, 6, (.inl (fun _ => 0)))), (q5, .inl (cI, 49152, (.inl (fun _ => 0)))), (q7, .inl (cZ, 768, (.inl (fun _ => 0)))), (q28, .inl (cI, 64, (.inl (fun _ => 0))))] H := hP
  have hD : va_D A [(h0, .inr (12, fs_27)), (q1, .inl (cI, 4000, (.inl (fun _ => 0)))), (q3, .inl (cI, 6, (.inl (fun _ => 0)))), (q5, .inl (cI, 49152, (.inl (fun _ => 0)))), (q7, .inl (cZ, 768, (.inl (fun _ => 0)))), (q28, .inl (cI, 64, (.inl (fun _ => 0))))] := hD
  refine W.widen (k := 14) (n := 257594) (by decide) (by decide) ?_
  refine va_putF (D := (dC, dI)) (ci := 12) (v := .ref q28) (ty := .array (.int)) (C := RX12) (T := TX12) (N := 172) hx hb hts inX12_init_c12 tyX12 tyX12_ok nmX12 hown hK hP hD hS 0 rfl rfl 21 (by decide) (hts (.fieldLink RX12 56 "DiskEvidenceModel" "partKind" "[I") (List.mem_of_getElem? (i := 22) rfl)) (fun _ h9 => h9) rfl hin rfl (by decide +kernel) rfl rfl (by rw [hfl_27]; decide) dX12_init_123 (fun H locs hP hD hS => ?_)
  have hP : va_P (dC, dI) vwCl [(h0, .inr (12, (fs_27.set 21 (.ref q28)))), (q1, .inl (cI, 4000, (.inl (fun _ => 0)))), (q3, .inl (cI, 6, (.inl (fun _ => 0)))), (q5, .inl (cI, 49152, (.inl (fun _ => 0)))), (q7, .inl (cZ, 768, (.inl (fun _ => 0)))), (q28, .inl (cI, 64, (.inl (fun _ => 0))))] H := hP
  have hD : va_D A [(h0, .inr (12, (fs_27.set 21 (.ref q28)))), (q1, .inl (cI, 4000, (.inl (fun _ => 0)))), (q3, .inl (cI, 6, (.inl (fun _ => 0)))), (q5, .inl (cI, 49152, (.inl (fun _ => 0)))), (q7, .inl (cZ, 768, (.inl (fun _ => 0)))), (q28, .inl (cI, 64, (.inl (fun _ => 0))))] := hD
  obtain ⟨fs_29, efs_29⟩ : ∃ y, y = (fs_27.set 21 (.ref q28)) := ⟨_, rfl⟩
  rw [← efs_29] at hP hD
  have hfl_29 : fs_29.length = 172 := by rw [efs_29, List.length_set]; exact hfl_27
  have hP := hP.sub (ws' := [(h0, .inr (12, fs_29)), (q1, .inl (cI, 4000, (.inl (fun _ => 0)))), (q3, .inl (cI, 6, (.inl (fun _ => 0)))), (q5, .inl (cI, 49152, (.inl (fun _ => 0)))), (q7, .inl (cZ, 768, (.inl (fun _ => 0))))]) [0, 1, 2, 3, 4] rfl
  have hD := hD.sub (ws' := [(h0, .inr (12, fs_29)), (q1, .inl (cI, 4000, (.inl (fun _ => 0)))), (q3, .inl (cI, 6, (.inl (fun _ => 0)))), (q5, .inl (cI, 49152, (.inl (fun _ => 0)))), (q7, .inl (cZ, 768, (.inl (fun _ => 0))))]) [0, 1, 2, 3, 4] (by decide) rfl
  refine lv_aload_n hx hb dX12_init_126 rfl (lv_at hl 0 rfl) ?_
  refine lv_bipush (v := 64) hx hb dX12_init_127 (by decide) ?_
  refine nw_arr (atype := .int) (N' := 64) (a0 := (64, (.inl (fun _ => 0)))) hx hb (hts (.arrayClass .int) (List.mem_of_getElem? (i := 4) rfl)) rfl hK 0 (cI := cI) rfl hP hD hS hA (fun _ => rfl) (by decide) (by decide) (by decide) (Nat.le_of_ble_eq_true rfl) (Nat.le_of_ble_eq_true rfl) dX12_init_129 (fun q30 H hP hD hS => ?_)
  have hP : va_P (dC, dI) vwCl [(h0, .inr (12, fs_29)), (q1, .inl (cI, 4000, (.inl (fun _ => 0)))), (q3, .inl (cI, 6, (.inl (fun _ => 0)))), (q5, .inl (cI, 49152, (.inl (fun _ => 0)))), (q7, .inl (cZ, 768, (.inl (fun _ => 0)))), (q30, .inl (cI, 64, (.inl (fun _ => 0))))] H := hP
  have hD : va_D A [(h0, .inr (12, fs_29)), (q1, .inl (cI, 4000, (.inl (fun _ => 0)))), (q3, .inl (cI, 6, (.inl (fun _ => 0)))), (q5, .inl (cI, 49152, (.inl (fun _ => 0)))), (q7, .inl (cZ, 768, (.inl (fun _ => 0)))), (q30, .inl (cI, 64, (.inl (fun _ => 0))))] := hD
  refine W.widen (k := 15) (n := 257658) (by decide) (by decide) ?_
  refine va_putF (D := (dC, dI)) (ci := 12) (v := .ref q30) (ty := .array (.int)) (C := RX12) (T := TX12) (N := 172) hx hb hts inX12_init_c12 tyX12 tyX12_ok nmX12 hown hK hP hD hS 0 rfl rfl 22 (by decide) (hts (.fieldLink RX12 59 "DiskEvidenceModel" "partFirst" "[I") (List.mem_of_getElem? (i := 23) rfl)) (fun _ h9 => h9) rfl hin rfl (by decide +kernel) rfl rfl (by rw [hfl_29]; decide) dX12_init_131 (fun H locs hP hD hS => ?_)
  have hP : va_P (dC, dI) vwCl [(h0, .inr (12, (fs_29.set 22 (.ref q30)))), (q1, .inl (cI, 4000, (.inl (fun _ => 0)))), (q3, .inl (cI, 6, (.inl (fun _ => 0)))), (q5, .inl (cI, 49152, (.inl (fun _ => 0)))), (q7, .inl (cZ, 768, (.inl (fun _ => 0)))), (q30, .inl (cI, 64, (.inl (fun _ => 0))))] H := hP
  have hD : va_D A [(h0, .inr (12, (fs_29.set 22 (.ref q30)))), (q1, .inl (cI, 4000, (.inl (fun _ => 0)))), (q3, .inl (cI, 6, (.inl (fun _ => 0)))), (q5, .inl (cI, 49152, (.inl (fun _ => 0)))), (q7, .inl (cZ, 768, (.inl (fun _ => 0)))), (q30, .inl (cI, 64, (.inl (fun _ => 0))))] := hD
  obtain ⟨fs_31, efs_31⟩ : ∃ y, y = (fs_29.set 22 (.ref q30)) := ⟨_, rfl⟩
  rw [← efs_31] at hP hD
  have hfl_31 : fs_31.length = 172 := by rw [efs_31, List.length_set]; exact hfl_29
  have hP := hP.sub (ws' := [(h0, .inr (12, fs_31)), (q1, .inl (cI, 4000, (.inl (fun _ => 0)))), (q3, .inl (cI, 6, (.inl (fun _ => 0)))), (q5, .inl (cI, 49152, (.inl (fun _ => 0)))), (q7, .inl (cZ, 768, (.inl (fun _ => 0))))]) [0, 1, 2, 3, 4] rfl
  have hD := hD.sub (ws' := [(h0, .inr (12, fs_31)), (q1, .inl (cI, 4000, (.inl (fun _ => 0)))), (q3, .inl (cI, 6, (.inl (fun _ => 0)))), (q5, .inl (cI, 49152, (.inl (fun _ => 0)))), (q7, .inl (cZ, 768, (.inl (fun _ => 0))))]) [0, 1, 2, 3, 4] (by decide) rfl
  refine lv_aload_n hx hb dX12_init_134 rfl (lv_at hl 0 rfl) ?_
  refine lv_bipush (v := 64) hx hb dX12_init_135 (by decide) ?_
  refine nw_arr (atype := .int) (N' := 64) (a0 := (64, (.inl (fun _ => 0)))) hx hb (hts (.arrayClass .int) (List.mem_of_getElem? (i := 4) rfl)) rfl hK 0 (cI := cI) rfl hP hD hS hA (fun _ => rfl) (by decide) (by decide) (by decide) (Nat.le_of_ble_eq_true rfl) (Nat.le_of_ble_eq_true rfl) dX12_init_137 (fun q32 H hP hD hS => ?_)
  have hP : va_P (dC, dI) vwCl [(h0, .inr (12, fs_31)), (q1, .inl (cI, 4000, (.inl (fun _ => 0)))), (q3, .inl (cI, 6, (.inl (fun _ => 0)))), (q5, .inl (cI, 49152, (.inl (fun _ => 0)))), (q7, .inl (cZ, 768, (.inl (fun _ => 0)))), (q32, .inl (cI, 64, (.inl (fun _ => 0))))] H := hP
  have hD : va_D A [(h0, .inr (12, fs_31)), (q1, .inl (cI, 4000, (.inl (fun _ => 0)))), (q3, .inl (cI, 6, (.inl (fun _ => 0)))), (q5, .inl (cI, 49152, (.inl (fun _ => 0)))), (q7, .inl (cZ, 768, (.inl (fun _ => 0)))), (q32, .inl (cI, 64, (.inl (fun _ => 0))))] := hD
  refine W.widen (k := 16) (n := 257722) (by decide) (by decide) ?_
  refine va_putF (D := (dC, dI)) (ci := 12) (v := .ref q32) (ty := .array (.int)) (C := RX12) (T := TX12) (N := 172) hx hb hts inX12_init_c12 tyX12 tyX12_ok nmX12 hown hK hP hD hS 0 rfl rfl 23 (by decide) (hts (.fieldLink RX12 62 "DiskEvidenceModel" "partMany" "[I") (List.mem_of_getElem? (i := 24) rfl)) (fun _ h9 => h9) rfl hin rfl (by decide +kernel) rfl rfl (by rw [hfl_31]; decide) dX12_init_139 (fun H locs hP hD hS => ?_)
  have hP : va_P (dC, dI) vwCl [(h0, .inr (12, (fs_31.set 23 (.ref q32)))), (q1, .inl (cI, 4000, (.inl (fun _ => 0)))), (q3, .inl (cI, 6, (.inl (fun _ => 0)))), (q5, .inl (cI, 49152, (.inl (fun _ => 0)))), (q7, .inl (cZ, 768, (.inl (fun _ => 0)))), (q32, .inl (cI, 64, (.inl (fun _ => 0))))] H := hP
  have hD : va_D A [(h0, .inr (12, (fs_31.set 23 (.ref q32)))), (q1, .inl (cI, 4000, (.inl (fun _ => 0)))), (q3, .inl (cI, 6, (.inl (fun _ => 0)))), (q5, .inl (cI, 49152, (.inl (fun _ => 0)))), (q7, .inl (cZ, 768, (.inl (fun _ => 0)))), (q32, .inl (cI, 64, (.inl (fun _ => 0))))] := hD
  obtain ⟨fs_33, efs_33⟩ : ∃ y, y = (fs_31.set 23 (.ref q32)) := ⟨_, rfl⟩
  rw [← efs_33] at hP hD
  have hfl_33 : fs_33.length = 172 := by rw [efs_33, List.length_set]; exact hfl_31
  have hP := hP.sub (ws' := [(h0, .inr (12, fs_33)), (q1, .inl (cI, 4000, (.inl (fun _ => 0)))), (q3, .inl (cI, 6, (.inl (fun _ => 0)))), (q5, .inl (cI, 49152, (.inl (fun _ => 0)))), (q7, .inl (cZ, 768, (.inl (fun _ => 0))))]) [0, 1, 2, 3, 4] rfl
  have hD := hD.sub (ws' := [(h0, .inr (12, fs_33)), (q1, .inl (cI, 4000, (.inl (fun _ => 0)))), (q3, .inl (cI, 6, (.inl (fun _ => 0)))), (q5, .inl (cI, 49152, (.inl (fun _ => 0)))), (q7, .inl (cZ, 768, (.inl (fun _ => 0))))]) [0, 1, 2, 3, 4] (by decide) rfl
  refine lv_aload_n hx hb dX12_init_142 rfl (lv_at hl 0 rfl) ?_
  refine lv_bipush (v := 64) hx hb dX12_init_143 (by decide) ?_
  refine nw_arr (atype := .int) (N' := 64) (a0 := (64, (.inl (fun _ => 0)))) hx hb (hts (.arrayClass .int) (List.mem_of_getElem? (i := 4) rfl)) rfl hK 0 (cI := cI) rfl hP hD hS hA (fun _ => rfl) (by decide) (by decide) (by decide) (Nat.le_of_ble_eq_true rfl) (Nat.le_of_ble_eq_true rfl) dX12_init_145 (fun q34 H hP hD hS => ?_)
  have hP : va_P (dC, dI) vwCl [(h0, .inr (12, fs_33)), (q1, .inl (cI, 4000, (.inl (fun _ => 0)))), (q3, .inl (cI, 6, (.inl (fun _ => 0)))), (q5, .inl (cI, 49152, (.inl (fun _ => 0)))), (q7, .inl (cZ, 768, (.inl (fun _ => 0)))), (q34, .inl (cI, 64, (.inl (fun _ => 0))))] H := hP
  have hD : va_D A [(h0, .inr (12, fs_33)), (q1, .inl (cI, 4000, (.inl (fun _ => 0)))), (q3, .inl (cI, 6, (.inl (fun _ => 0)))), (q5, .inl (cI, 49152, (.inl (fun _ => 0)))), (q7, .inl (cZ, 768, (.inl (fun _ => 0)))), (q34, .inl (cI, 64, (.inl (fun _ => 0))))] := hD
  refine W.widen (k := 17) (n := 257786) (by decide) (by decide) ?_
  refine va_putF (D := (dC, dI)) (ci := 12) (v := .ref q34) (ty := .array (.int)) (C := RX12) (T := TX12) (N := 172) hx hb hts inX12_init_c12 tyX12 tyX12_ok nmX12 hown hK hP hD hS 0 rfl rfl 24 (by decide) (hts (.fieldLink RX12 65 "DiskEvidenceModel" "partTable" "[I") (List.mem_of_getElem? (i := 25) rfl)) (fun _ h9 => h9) rfl hin rfl (by decide +kernel) rfl rfl (by rw [hfl_33]; decide) dX12_init_147 (fun H locs hP hD hS => ?_)
  have hP : va_P (dC, dI) vwCl [(h0, .inr (12, (fs_33.set 24 (.ref q34)))), (q1, .inl (cI, 4000, (.inl (fun _ => 0)))), (q3, .inl (cI, 6, (.inl (fun _ => 0)))), (q5, .inl (cI, 49152, (.inl (fun _ => 0)))), (q7, .inl (cZ, 768, (.inl (fun _ => 0)))), (q34, .inl (cI, 64, (.inl (fun _ => 0))))] H := hP
  have hD : va_D A [(h0, .inr (12, (fs_33.set 24 (.ref q34)))), (q1, .inl (cI, 4000, (.inl (fun _ => 0)))), (q3, .inl (cI, 6, (.inl (fun _ => 0)))), (q5, .inl (cI, 49152, (.inl (fun _ => 0)))), (q7, .inl (cZ, 768, (.inl (fun _ => 0)))), (q34, .inl (cI, 64, (.inl (fun _ => 0))))] := hD
  obtain ⟨fs_35, efs_35⟩ : ∃ y, y = (fs_33.set 24 (.ref q34)) := ⟨_, rfl⟩
  rw [← efs_35] at hP hD
  have hfl_35 : fs_35.length = 172 := by rw [efs_35, List.length_set]; exact hfl_33
  have hP := hP.sub (ws' := [(h0, .inr (12, fs_35)), (q1, .inl (cI, 4000, (.inl (fun _ => 0)))), (q3, .inl (cI, 6, (.inl (fun _ => 0)))), (q5, .inl (cI, 49152, (.inl (fun _ => 0)))), (q7, .inl (cZ, 768, (.inl (fun _ => 0))))]) [0, 1, 2, 3, 4] rfl
  have hD := hD.sub (ws' := [(h0, .inr (12, fs_35)), (q1, .inl (cI, 4000, (.inl (fun _ => 0)))), (q3, .inl (cI, 6, (.inl (fun _ => 0)))), (q5, .inl (cI, 49152, (.inl (fun _ => 0)))), (q7, .inl (cZ, 768, (.inl (fun _ => 0))))]) [0, 1, 2, 3, 4] (by decide) rfl
  refine lv_aload_n hx hb dX12_init_150 rfl (lv_at hl 0 rfl) ?_
  refine lv_bipush (v := 16) hx hb dX12_init_151 (by decide) ?_
  refine nw_arr (atype := .int) (N' := 16) (a0 := (16, (.inl (fun _ => 0)))) hx hb (hts (.arrayClass .int) (List.mem_of_getElem? (i := 4) rfl)) rfl hK 0 (cI := cI) rfl hP hD hS hA (fun _ => rfl) (by decide) (by decide) (by decide) (Nat.le_of_ble_eq_true rfl) (Nat.le_of_ble_eq_true rfl) dX12_init_153 (fun q36 H hP hD hS => ?_)
  have hP : va_P (dC, dI) vwCl [(h0, .inr (12, fs_35)), (q1, .inl (cI, 4000, (.inl (fun _ => 0)))), (q3, .inl (cI, 6, (.inl (fun _ => 0)))), (q5, .inl (cI, 49152, (.inl (fun _ => 0)))), (q7, .inl (cZ, 768, (.inl (fun _ => 0)))), (q36, .inl (cI, 16, (.inl (fun _ => 0))))] H := hP
  have hD : va_D A [(h0, .inr (12, fs_35)), (q1, .inl (cI, 4000, (.inl (fun _ => 0)))), (q3, .inl (cI, 6, (.inl (fun _ => 0)))), (q5, .inl (cI, 49152, (.inl (fun _ => 0)))), (q7, .inl (cZ, 768, (.inl (fun _ => 0)))), (q36, .inl (cI, 16, (.inl (fun _ => 0))))] := hD
  refine W.widen (k := 18) (n := 257802) (by decide) (by decide) ?_
  refine va_putF (D := (dC, dI)) (ci := 12) (v := .ref q36) (ty := .array (.int)) (C := RX12) (T := TX12) (N := 172) hx hb hts inX12_init_c12 tyX12 tyX12_ok nmX12 hown hK hP hD hS 0 rfl rfl 25 (by decide) (hts (.fieldLink RX12 68 "DiskEvidenceModel" "tables" "[I") (List.mem_of_getElem? (i := 26) rfl)) (fun _ h9 => h9) rfl hin rfl (by decide +kernel) rfl rfl (by rw [hfl_35]; decide) dX12_init_155 (fun H locs hP hD hS => ?_)
  have hP : va_P (dC, dI) vwCl [(h0, .inr (12, (fs_35.set 25 (.ref q36)))), (q1, .inl (cI, 4000, (.inl (fun _ => 0)))), (q3, .inl (cI, 6, (.inl (fun _ => 0)))), (q5, .inl (cI, 49152, (.inl (fun _ => 0)))), (q7, .inl (cZ, 768, (.inl (fun _ => 0)))), (q36, .inl (cI, 16, (.inl (fun _ => 0))))] H := hP
  have hD : va_D A [(h0, .inr (12, (fs_35.set 25 (.ref q36)))), (q1, .inl (cI, 4000, (.inl (fun _ => 0)))), (q3, .inl (cI, 6, (.inl (fun _ => 0)))), (q5, .inl (cI, 49152, (.inl (fun _ => 0)))), (q7, .inl (cZ, 768, (.inl (fun _ => 0)))), (q36, .inl (cI, 16, (.inl (fun _ => 0))))] := hD
  obtain ⟨fs_37, efs_37⟩ : ∃ y, y = (fs_35.set 25 (.ref q36)) := ⟨_, rfl⟩
  rw [← efs_37] at hP hD
  have hfl_37 : fs_37.length = 172 := by rw [efs_37, List.length_set]; exact hfl_35
  have hP := hP.sub (ws' := [(h0, .inr (12, fs_37)), (q1, .inl (cI, 4000, (.inl (fun _ => 0)))), (q3, .inl (cI, 6, (.inl (fun _ => 0)))), (q5, .inl (cI, 49152, (.inl (fun _ => 0)))), (q7, .inl (cZ, 768, (.inl (fun _ => 0))))]) [0, 1, 2, 3, 4] rfl
  have hD := hD.sub (ws' := [(h0, .inr (12, fs_37)), (q1, .inl (cI, 4000, (.inl (fun _ => 0)))), (q3, .inl (cI, 6, (.inl (fun _ => 0)))), (q5, .inl (cI, 49152, (.inl (fun _ => 0)))), (q7, .inl (cZ, 768, (.inl (fun _ => 0))))]) [0, 1, 2, 3, 4] (by decide) rfl
  refine lv_aload_n hx hb dX12_init_158 rfl (lv_at hl 0 rfl) ?_
  refine lv_bipush (v := 17) hx hb dX12_init_159 (by decide) ?_
  refine nw_arr (atype := .int) (N' := 17) (a0 := (17, (.inl (fun _ => 0)))) hx hb (hts (.arrayClass .int) (List.mem_of_getElem? (i := 4) rfl)) rfl hK 0 (cI := cI) rfl hP hD hS hA (fun _ => rfl) (by decide) (by decide) (by decide) (Nat.le_of_ble_eq_true rfl) (Nat.le_of_ble_eq_true rfl) dX12_init_161 (fun q38 H hP hD hS => ?_)
  have hP : va_P (dC, dI) vwCl [(h0, .inr (12, fs_37)), (q1, .inl (cI, 4000, (.inl (fun _ => 0)))), (q3, .inl (cI, 6, (.inl (fun _ => 0)))), (q5, .inl (cI, 49152, (.inl (fun _ => 0)))), (q7, .inl (cZ, 768, (.inl (fun _ => 0)))), (q38, .inl (cI, 17, (.inl (fun _ => 0))))] H := hP
  have hD : va_D A [(h0, .inr (12, fs_37)), (q1, .inl (cI, 4000, (.inl (fun _ => 0)))), (q3, .inl (cI, 6, (.inl (fun _ => 0)))), (q5, .inl (cI, 49152, (.inl (fun _ => 0)))), (q7, .inl (cZ, 768, (.inl (fun _ => 0)))), (q38, .inl (cI, 17, (.inl (fun _ => 0))))] := hD
  refine W.widen (k := 19) (n := 257819) (by decide) (by decide) ?_
  refine va_putF (D := (dC, dI)) (ci := 12) (v := .ref q38) (ty := .array (.int)) (C := RX12) (T := TX12) (N := 172) hx hb hts inX12_init_c12 tyX12 tyX12_ok nmX12 hown hK hP hD hS 0 rfl rfl 27 (by decide) (hts (.fieldLink RX12 71 "DiskEvidenceModel" "openTable" "[I") (List.mem_of_getElem? (i := 27) rfl)) (fun _ h9 => h9) rfl hin rfl (by decide +kernel) rfl rfl (by rw [hfl_37]; decide) dX12_init_163 (fun H locs hP hD hS => ?_)
  have hP : va_P (dC, dI) vwCl [(h0, .inr (12, (fs_37.set 27 (.ref q38)))), (q1, .inl (cI, 4000, (.inl (fun _ => 0)))), (q3, .inl (cI, 6, (.inl (fun _ => 0)))), (q5, .inl (cI, 49152, (.inl (fun _ => 0)))), (q7, .inl (cZ, 768, (.inl (fun _ => 0)))), (q38, .inl (cI, 17, (.inl (fun _ => 0))))] H := hP
  have hD : va_D A [(h0, .inr (12, (fs_37.set 27 (.ref q38)))), (q1, .inl (cI, 4000, (.inl (fun _ => 0)))), (q3, .inl (cI, 6, (.inl (fun _ => 0)))), (q5, .inl (cI, 49152, (.inl (fun _ => 0)))), (q7, .inl (cZ, 768, (.inl (fun _ => 0)))), (q38, .inl (cI, 17, (.inl (fun _ => 0))))] := hD
  obtain ⟨fs_39, efs_39⟩ : ∃ y, y = (fs_37.set 27 (.ref q38)) := ⟨_, rfl⟩
  rw [← efs_39] at hP hD
  have hfl_39 : fs_39.length = 172 := by rw [efs_39, List.length_set]; exact hfl_37
  have hP := hP.sub (ws' := [(h0, .inr (12, fs_39)), (q1, .inl (cI, 4000, (.inl (fun _ => 0)))), (q3, .inl (cI, 6, (.inl (fun _ => 0)))), (q5, .inl (cI, 49152, (.inl (fun _ => 0)))), (q7, .inl (cZ, 768, (.inl (fun _ => 0))))]) [0, 1, 2, 3, 4] rfl
  have hD := hD.sub (ws' := [(h0, .inr (12, fs_39)), (q1, .inl (cI, 4000, (.inl (fun _ => 0)))), (q3, .inl (cI, 6, (.inl (fun _ => 0)))), (q5, .inl (cI, 49152, (.inl (fun _ => 0)))), (q7, .inl (cZ, 768, (.inl (fun _ => 0))))]) [0, 1, 2, 3, 4] (by decide) rfl
  refine lv_aload_n hx hb dX12_init_166 rfl (lv_at hl 0 rfl) ?_
  refine lv_bipush (v := 17) hx hb dX12_init_167 (by decide) ?_
  refine nw_arr (atype := .int) (N' := 17) (a0 := (17, (.inl (fun _ => 0)))) hx hb (hts (.arrayClass .int) (List.mem_of_getElem? (i := 4) rfl)) rfl hK 0 (cI := cI) rfl hP hD hS hA (fun _ => rfl) (by decide) (by decide) (by decide) (Nat.le_of_ble_eq_true rfl) (Nat.le_of_ble_eq_true rfl) dX12_init_169 (fun q40 H hP hD hS => ?_)
  have hP : va_P (dC, dI) vwCl [(h0, .inr (12, fs_39)), (q1, .inl (cI, 4000, (.inl (fun _ => 0)))), (q3, .inl (cI, 6, (.inl (fun _ => 0)))), (q5, .inl (cI, 49152, (.inl (fun _ => 0)))), (q7, .inl (cZ, 768, (.inl (fun _ => 0)))), (q40, .inl (cI, 17, (.inl (fun _ => 0))))] H := hP
  have hD : va_D A [(h0, .inr (12, fs_39)), (q1, .inl (cI, 4000, (.inl (fun _ => 0)))), (q3, .inl (cI, 6, (.inl (fun _ => 0)))), (q5, .inl (cI, 49152, (.inl (fun _ => 0)))), (q7, .inl (cZ, 768, (.inl (fun _ => 0)))), (q40, .inl (cI, 17, (.inl (fun _ => 0))))] := hD
  refine W.widen (k := 20) (n := 257836) (by decide) (by decide) ?_
  refine va_putF (D := (dC, dI)) (ci := 12) (v := .ref q40) (ty := .array (.int)) (C := RX12) (T := TX12) (N := 172) hx hb hts inX12_init_c12 tyX12 tyX12_ok nmX12 hown hK hP hD hS 0 rfl rfl 28 (by decide) (hts (.fieldLink RX12 74 "DiskEvidenceModel" "openRow" "[I") (List.mem_of_getElem? (i := 28) rfl)) (fun _ h9 => h9) rfl hin rfl (by decide +kernel) rfl rfl (by rw [hfl_39]; decide) dX12_init_171 (fun H locs hP hD hS => ?_)
  have hP : va_P (dC, dI) vwCl [(h0, .inr (12, (fs_39.set 28 (.ref q40)))), (q1, .inl (cI, 4000, (.inl (fun _ => 0)))), (q3, .inl (cI, 6, (.inl (fun _ => 0)))), (q5, .inl (cI, 49152, (.inl (fun _ => 0)))), (q7, .inl (cZ, 768, (.inl (fun _ => 0)))), (q40, .inl (cI, 17, (.inl (fun _ => 0))))] H := hP
  have hD : va_D A [(h0, .inr (12, (fs_39.set 28 (.ref q40)))), (q1, .inl (cI, 4000, (.inl (fun _ => 0)))), (q3, .inl (cI, 6, (.inl (fun _ => 0)))), (q5, .inl (cI, 49152, (.inl (fun _ => 0)))), (q7, .inl (cZ, 768, (.inl (fun _ => 0)))), (q40, .inl (cI, 17, (.inl (fun _ => 0))))] := hD
  obtain ⟨fs_41, efs_41⟩ : ∃ y, y = (fs_39.set 28 (.ref q40)) := ⟨_, rfl⟩
  rw [← efs_41] at hP hD
  have hfl_41 : fs_41.length = 172 := by rw [efs_41, List.length_set]; exact hfl_39
  have hP := hP.sub (ws' := [(h0, .inr (12, fs_41)), (q1, .inl (cI, 4000, (.inl (fun _ => 0)))), (q3, .inl (cI, 6, (.inl (fun _ => 0)))), (q5, .inl (cI, 49152, (.inl (fun _ => 0)))), (q7, .inl (cZ, 768, (.inl (fun _ => 0))))]) [0, 1, 2, 3, 4] rfl
  have hD := hD.sub (ws' := [(h0, .inr (12, fs_41)), (q1, .inl (cI, 4000, (.inl (fun _ => 0)))), (q3, .inl (cI, 6, (.inl (fun _ => 0)))), (q5, .inl (cI, 49152, (.inl (fun _ => 0)))), (q7, .inl (cZ, 768, (.inl (fun _ => 0))))]) [0, 1, 2, 3, 4] (by decide) rfl
  refine lv_aload_n hx hb dX12_init_174 rfl (lv_at hl 0 rfl) ?_
  refine lv_bipush (v := 64) hx hb dX12_init_175 (by decide) ?_
  refine nw_arr (atype := .int) (N' := 64) (a0 := (64, (.inl (fun _ => 0)))) hx hb (hts (.arrayClass .int) (List.mem_of_getElem? (i := 4) rfl)) rfl hK 0 (cI := cI) rfl hP hD hS hA (fun _ => rfl) (by decide) (by decide) (by decide) (Nat.le_of_ble_eq_true rfl) (Nat.le_of_ble_eq_true rfl) dX12_init_177 (fun q42 H hP hD hS => ?_)
  have hP : va_P (dC, dI) vwCl [(h0, .inr (12, fs_41)), (q1, .inl (cI, 4000, (.inl (fun _ => 0)))), (q3, .inl (cI, 6, (.inl (fun _ => 0)))), (q5, .inl (cI, 49152, (.inl (fun _ => 0)))), (q7, .inl (cZ, 768, (.inl (fun _ => 0)))), (q42, .inl (cI, 64, (.inl (fun _ => 0))))] H := hP
  have hD : va_D A [(h0, .inr (12, fs_41)), (q1, .inl (cI, 4000, (.inl (fun _ => 0)))), (q3, .inl (cI, 6, (.inl (fun _ => 0)))), (q5, .inl (cI, 49152, (.inl (fun _ => 0)))), (q7, .inl (cZ, 768, (.inl (fun _ => 0)))), (q42, .inl (cI, 64, (.inl (fun _ => 0))))] := hD
  refine W.widen (k := 21) (n := 257900) (by decide) (by decide) ?_
  refine va_putF (D := (dC, dI)) (ci := 12) (v := .ref q42) (ty := .array (.int)) (C := RX12) (T := TX12) (N := 172) hx hb hts inX12_init_c12 tyX12 tyX12_ok nmX12 hown hK hP hD hS 0 rfl rfl 31 (by decide) (hts (.fieldLink RX12 77 "DiskEvidenceModel" "waitVolume" "[I") (List.mem_of_getElem? (i := 29) rfl)) (fun _ h9 => h9) rfl hin rfl (by decide +kernel) rfl rfl (by rw [hfl_41]; decide) dX12_init_179 (fun H locs hP hD hS => ?_)
  have hP : va_P (dC, dI) vwCl [(h0, .inr (12, (fs_41.set 31 (.ref q42)))), (q1, .inl (cI, 4000, (.inl (fun _ => 0)))), (q3, .inl (cI, 6, (.inl (fun _ => 0)))), (q5, .inl (cI, 49152, (.inl (fun _ => 0)))), (q7, .inl (cZ, 768, (.inl (fun _ => 0)))), (q42, .inl (cI, 64, (.inl (fun _ => 0))))] H := hP
  have hD : va_D A [(h0, .inr (12, (fs_41.set 31 (.ref q42)))), (q1, .inl (cI, 4000, (.inl (fun _ => 0)))), (q3, .inl (cI, 6, (.inl (fun _ => 0)))), (q5, .inl (cI, 49152, (.inl (fun _ => 0)))), (q7, .inl (cZ, 768, (.inl (fun _ => 0)))), (q42, .inl (cI, 64, (.inl (fun _ => 0))))] := hD
  obtain ⟨fs_43, efs_43⟩ : ∃ y, y = (fs_41.set 31 (.ref q42)) := ⟨_, rfl⟩
  rw [← efs_43] at hP hD
  have hfl_43 : fs_43.length = 172 := by rw [efs_43, List.length_set]; exact hfl_41
  have hP := hP.sub (ws' := [(h0, .inr (12, fs_43)), (q1, .inl (cI, 4000, (.inl (fun _ => 0)))), (q3, .inl (cI, 6, (.inl (fun _ => 0)))), (q5, .inl (cI, 49152, (.inl (fun _ => 0)))), (q7, .inl (cZ, 768, (.inl (fun _ => 0))))]) [0, 1, 2, 3, 4] rfl
  have hD := hD.sub (ws' := [(h0, .inr (12, fs_43)), (q1, .inl (cI, 4000, (.inl (fun _ => 0)))), (q3, .inl (cI, 6, (.inl (fun _ => 0)))), (q5, .inl (cI, 49152, (.inl (fun _ => 0)))), (q7, .inl (cZ, 768, (.inl (fun _ => 0))))]) [0, 1, 2, 3, 4] (by decide) rfl
  refine lv_aload_n hx hb dX12_init_182 rfl (lv_at hl 0 rfl) ?_
  refine lv_bipush (v := 64) hx hb dX12_init_183 (by decide) ?_
  refine nw_arr (atype := .int) (N' := 64) (a0 := (64, (.inl (fun _ => 0)))) hx hb (hts (.arrayClass .int) (List.mem_of_getElem? (i := 4) rfl)) rfl hK 0 (cI := cI) rfl hP hD hS hA (fun _ => rfl) (by decide) (by decide) (by decide) (Nat.le_of_ble_eq_true rfl) (Nat.le_of_ble_eq_true rfl) dX12_init_185 (fun q44 H hP hD hS => ?_)
  have hP : va_P (dC, dI) vwCl [(h0, .inr (12, fs_43)), (q1, .inl (cI, 4000, (.inl (fun _ => 0)))), (q3, .inl (cI, 6, (.inl (fun _ => 0)))), (q5, .inl (cI, 49152, (.inl (fun _ => 0)))), (q7, .inl (cZ, 768, (.inl (fun _ => 0)))), (q44, .inl (cI, 64, (.inl (fun _ => 0))))] H := hP
  have hD : va_D A [(h0, .inr (12, fs_43)), (q1, .inl (cI, 4000, (.inl (fun _ => 0)))), (q3, .inl (cI, 6, (.inl (fun _ => 0)))), (q5, .inl (cI, 49152, (.inl (fun _ => 0)))), (q7, .inl (cZ, 768, (.inl (fun _ => 0)))), (q44, .inl (cI, 64, (.inl (fun _ => 0))))] := hD
  refine W.widen (k := 22) (n := 257964) (by decide) (by decide) ?_
  refine va_putF (D := (dC, dI)) (ci := 12) (v := .ref q44) (ty := .array (.int)) (C := RX12) (T := TX12) (N := 172) hx hb hts inX12_init_c12 tyX12 tyX12_ok nmX12 hown hK hP hD hS 0 rfl rfl 32 (by decide) (hts (.fieldLink RX12 80 "DiskEvidenceModel" "waitBlock" "[I") (List.mem_of_getElem? (i := 30) rfl)) (fun _ h9 => h9) rfl hin rfl (by decide +kernel) rfl rfl (by rw [hfl_43]; decide) dX12_init_187 (fun H locs hP hD hS => ?_)
  have hP : va_P (dC, dI) vwCl [(h0, .inr (12, (fs_43.set 32 (.ref q44)))), (q1, .inl (cI, 4000, (.inl (fun _ => 0)))), (q3, .inl (cI, 6, (.inl (fun _ => 0)))), (q5, .inl (cI, 49152, (.inl (fun _ => 0)))), (q7, .inl (cZ, 768, (.inl (fun _ => 0)))), (q44, .inl (cI, 64, (.inl (fun _ => 0))))] H := hP
  have hD : va_D A [(h0, .inr (12, (fs_43.set 32 (.ref q44)))), (q1, .inl (cI, 4000, (.inl (fun _ => 0)))), (q3, .inl (cI, 6, (.inl (fun _ => 0)))), (q5, .inl (cI, 49152, (.inl (fun _ => 0)))), (q7, .inl (cZ, 768, (.inl (fun _ => 0)))), (q44, .inl (cI, 64, (.inl (fun _ => 0))))] := hD
  obtain ⟨fs_45, efs_45⟩ : ∃ y, y = (fs_43.set 32 (.ref q44)) := ⟨_, rfl⟩
  rw [← efs_45] at hP hD
  have hfl_45 : fs_45.length = 172 := by rw [efs_45, List.length_set]; exact hfl_43
  have hP := hP.sub (ws' := [(h0, .inr (12, fs_45)), (q1, .inl (cI, 4000, (.inl (fun _ => 0)))), (q3, .inl (cI, 6, (.inl (fun _ => 0)))), (q5, .inl (cI, 49152, (.inl (fun _ => 0)))), (q7, .inl (cZ, 768, (.inl (fun _ => 0))))]) [0, 1, 2, 3, 4] rfl
  have hD := hD.sub (ws' := [(h0, .inr (12, fs_45)), (q1, .inl (cI, 4000, (.inl (fun _ => 0)))), (q3, .inl (cI, 6, (.inl (fun _ => 0)))), (q5, .inl (cI, 49152, (.inl (fun _ => 0)))), (q7, .inl (cZ, 768, (.inl (fun _ => 0))))]) [0, 1, 2, 3, 4] (by decide) rfl
  refine lv_aload_n hx hb dX12_init_190 rfl (lv_at hl 0 rfl) ?_
  refine lv_sipush (v := 4096) hx hb dX12_init_191 (by decide) ?_
  refine nw_arr (atype := .int) (N' := 4096) (a0 := (4096, (.inl (fun _ => 0)))) hx hb (hts (.arrayClass .int) (List.mem_of_getElem? (i := 4) rfl)) rfl hK 0 (cI := cI) rfl hP hD hS hA (fun _ => rfl) (by decide) (by decide) (by decide) (Nat.le_of_ble_eq_true rfl) (Nat.le_of_ble_eq_true rfl) dX12_init_194 (fun q46 H hP hD hS => ?_)
  have hP : va_P (dC, dI) vwCl [(h0, .inr (12, fs_45)), (q1, .inl (cI, 4000, (.inl (fun _ => 0)))), (q3, .inl (cI, 6, (.inl (fun _ => 0)))), (q5, .inl (cI, 49152, (.inl (fun _ => 0)))), (q7, .inl (cZ, 768, (.inl (fun _ => 0)))), (q46, .inl (cI, 4096, (.inl (fun _ => 0))))] H := hP
  have hD : va_D A [(h0, .inr (12, fs_45)), (q1, .inl (cI, 4000, (.inl (fun _ => 0)))), (q3, .inl (cI, 6, (.inl (fun _ => 0)))), (q5, .inl (cI, 49152, (.inl (fun _ => 0)))), (q7, .inl (cZ, 768, (.inl (fun _ => 0)))), (q46, .inl (cI, 4096, (.inl (fun _ => 0))))] := hD
  refine W.widen (k := 23) (n := 262060) (by decide) (by decide) ?_
  refine va_putF (D := (dC, dI)) (ci := 12) (v := .ref q46) (ty := .array (.int)) (C := RX12) (T := TX12) (N := 172) hx hb hts inX12_init_c12 tyX12 tyX12_ok nmX12 hown hK hP hD hS 0 rfl rfl 33 (by decide) (hts (.fieldLink RX12 83 "DiskEvidenceModel" "waitBytes" "[I") (List.mem_of_getElem? (i := 31) rfl)) (fun _ h9 => h9) rfl hin rfl (by decide +kernel) rfl rfl (by rw [hfl_45]; decide) dX12_init_196 (fun H locs hP hD hS => ?_)
  have hP : va_P (dC, dI) vwCl [(h0, .inr (12, (fs_45.set 33 (.ref q46)))), (q1, .inl (cI, 4000, (.inl (fun _ => 0)))), (q3, .inl (cI, 6, (.inl (fun _ => 0)))), (q5, .inl (cI, 49152, (.inl (fun _ => 0)))), (q7, .inl (cZ, 768, (.inl (fun _ => 0)))), (q46, .inl (cI, 4096, (.inl (fun _ => 0))))] H := hP
  have hD : va_D A [(h0, .inr (12, (fs_45.set 33 (.ref q46)))), (q1, .inl (cI, 4000, (.inl (fun _ => 0)))), (q3, .inl (cI, 6, (.inl (fun _ => 0)))), (q5, .inl (cI, 49152, (.inl (fun _ => 0)))), (q7, .inl (cZ, 768, (.inl (fun _ => 0)))), (q46, .inl (cI, 4096, (.inl (fun _ => 0))))] := hD
  obtain ⟨fs_47, efs_47⟩ : ∃ y, y = (fs_45.set 33 (.ref q46)) := ⟨_, rfl⟩
  rw [← efs_47] at hP hD
  have hfl_47 : fs_47.length = 172 := by rw [efs_47, List.length_set]; exact hfl_45
  have hP := hP.sub (ws' := [(h0, .inr (12, fs_47)), (q1, .inl (cI, 4000, (.inl (fun _ => 0)))), (q3, .inl (cI, 6, (.inl (fun _ => 0)))), (q5, .inl (cI, 49152, (.inl (fun _ => 0)))), (q7, .inl (cZ, 768, (.inl (fun _ => 0))))]) [0, 1, 2, 3, 4] rfl
  have hD := hD.sub (ws' := [(h0, .inr (12, fs_47)), (q1, .inl (cI, 4000, (.inl (fun _ => 0)))), (q3, .inl (cI, 6, (.inl (fun _ => 0)))), (q5, .inl (cI, 49152, (.inl (fun _ => 0)))), (q7, .inl (cZ, 768, (.inl (fun _ => 0))))]) [0, 1, 2, 3, 4] (by decide) rfl
  refine lv_aload_n hx hb dX12_init_199 rfl (lv_at hl 0 rfl) ?_
  refine lv_bipush (v := 64) hx hb dX12_init_200 (by decide) ?_
  refine nw_arr (atype := .int) (N' := 64) (a0 := (64, (.inl (fun _ => 0)))) hx hb (hts (.arrayClass .int) (List.mem_of_getElem? (i := 4) rfl)) rfl hK 0 (cI := cI) rfl hP hD hS hA (fun _ => rfl) (by decide) (by decide) (by decide) (Nat.le_of_ble_eq_true rfl) (Nat.le_of_ble_eq_true rfl) dX12_init_202 (fun q48 H hP hD hS => ?_)
  have hP : va_P (dC, dI) vwCl [(h0, .inr (12, fs_47)), (q1, .inl (cI, 4000, (.inl (fun _ => 0)))), (q3, .inl (cI, 6, (.inl (fun _ => 0)))), (q5, .inl (cI, 49152, (.inl (fun _ => 0)))), (q7, .inl (cZ, 768, (.inl (fun _ => 0)))), (q48, .inl (cI, 64, (.inl (fun _ => 0))))] H := hP
  have hD : va_D A [(h0, .inr (12, fs_47)), (q1, .inl (cI, 4000, (.inl (fun _ => 0)))), (q3, .inl (cI, 6, (.inl (fun _ => 0)))), (q5, .inl (cI, 49152, (.inl (fun _ => 0)))), (q7, .inl (cZ, 768, (.inl (fun _ => 0)))), (q48, .inl (cI, 64, (.inl (fun _ => 0))))] := hD
  refine W.widen (k := 24) (n := 262124) (by decide) (by decide) ?_
  refine va_putF (D := (dC, dI)) (ci := 12) (v := .ref q48) (ty := .array (.int)) (C := RX12) (T := TX12) (N := 172) hx hb hts inX12_init_c12 tyX12 tyX12_ok nmX12 hown hK hP hD hS 0 rfl rfl 35 (by decide) (hts (.fieldLink RX12 86 "DiskEvidenceModel" "one" "[I") (List.mem_of_getElem? (i := 32) rfl)) (fun _ h9 => h9) rfl hin rfl (by decide +kernel) rfl rfl (by rw [hfl_47]; decide) dX12_init_204 (fun H locs hP hD hS => ?_)
  have hP : va_P (dC, dI) vwCl [(h0, .inr (12, (fs_47.set 35 (.ref q48)))), (q1, .inl (cI, 4000, (.inl (fun _ => 0)))), (q3, .inl (cI, 6, (.inl (fun _ => 0)))), (q5, .inl (cI, 49152, (.inl (fun _ => 0)))), (q7, .inl (cZ, 768, (.inl (fun _ => 0)))), (q48, .inl (cI, 64, (.inl (fun _ => 0))))] H := hP
  have hD : va_D A [(h0, .inr (12, (fs_47.set 35 (.ref q48)))), (q1, .inl (cI, 4000, (.inl (fun _ => 0)))), (q3, .inl (cI, 6, (.inl (fun _ => 0)))), (q5, .inl (cI, 49152, (.inl (fun _ => 0)))), (q7, .inl (cZ, 768, (.inl (fun _ => 0)))), (q48, .inl (cI, 64, (.inl (fun _ => 0))))] := hD
  obtain ⟨fs_49, efs_49⟩ : ∃ y, y = (fs_47.set 35 (.ref q48)) := ⟨_, rfl⟩
  rw [← efs_49] at hP hD
  have hfl_49 : fs_49.length = 172 := by rw [efs_49, List.length_set]; exact hfl_47
  have hP := hP.sub (ws' := [(h0, .inr (12, fs_49)), (q1, .inl (cI, 4000, (.inl (fun _ => 0)))), (q3, .inl (cI, 6, (.inl (fun _ => 0)))), (q5, .inl (cI, 49152, (.inl (fun _ => 0)))), (q7, .inl (cZ, 768, (.inl (fun _ => 0))))]) [0, 1, 2, 3, 4] rfl
  have hD := hD.sub (ws' := [(h0, .inr (12, fs_49)), (q1, .inl (cI, 4000, (.inl (fun _ => 0)))), (q3, .inl (cI, 6, (.inl (fun _ => 0)))), (q5, .inl (cI, 49152, (.inl (fun _ => 0)))), (q7, .inl (cZ, 768, (.inl (fun _ => 0))))]) [0, 1, 2, 3, 4] (by decide) rfl
  refine lv_aload_n hx hb dX12_init_207 rfl (lv_at hl 0 rfl) ?_
  refine lv_bipush (v := 64) hx hb dX12_init_208 (by decide) ?_
  refine nw_arr (atype := .int) (N' := 64) (a0 := (64, (.inl (fun _ => 0)))) hx hb (hts (.arrayClass .int) (List.mem_of_getElem? (i := 4) rfl)) rfl hK 0 (cI := cI) rfl hP hD hS hA (fun _ => rfl) (by decide) (by decide) (by decide) (Nat.le_of_ble_eq_true rfl) (Nat.le_of_ble_eq_true rfl) dX12_init_210 (fun q50 H hP hD hS => ?_)
  have hP : va_P (dC, dI) vwCl [(h0, .inr (12, fs_49)), (q1, .inl (cI, 4000, (.inl (fun _ => 0)))), (q3, .inl (cI, 6, (.inl (fun _ => 0)))), (q5, .inl (cI, 49152, (.inl (fun _ => 0)))), (q7, .inl (cZ, 768, (.inl (fun _ => 0)))), (q50, .inl (cI, 64, (.inl (fun _ => 0))))] H := hP
  have hD : va_D A [(h0, .inr (12, fs_49)), (q1, .inl (cI, 4000, (.inl (fun _ => 0)))), (q3, .inl (cI, 6, (.inl (fun _ => 0)))), (q5, .inl (cI, 49152, (.inl (fun _ => 0)))), (q7, .inl (cZ, 768, (.inl (fun _ => 0)))), (q50, .inl (cI, 64, (.inl (fun _ => 0))))] := hD
  refine W.widen (k := 25) (n := 262188) (by decide) (by decide) ?_
  refine va_putF (D := (dC, dI)) (ci := 12) (v := .ref q50) (ty := .array (.int)) (C := RX12) (T := TX12) (N := 172) hx hb hts inX12_init_c12 tyX12 tyX12_ok nmX12 hown hK hP hD hS 0 rfl rfl 36 (by decide) (hts (.fieldLink RX12 89 "DiskEvidenceModel" "kept" "[I") (List.mem_of_getElem? (i := 33) rfl)) (fun _ h9 => h9) rfl hin rfl (by decide +kernel) rfl rfl (by rw [hfl_49]; decide) dX12_init_212 (fun H locs hP hD hS => ?_)
  have hP : va_P (dC, dI) vwCl [(h0, .inr (12, (fs_49.set 36 (.ref q50)))), (q1, .inl (cI, 4000, (.inl (fun _ => 0)))), (q3, .inl (cI, 6, (.inl (fun _ => 0)))), (q5, .inl (cI, 49152, (.inl (fun _ => 0)))), (q7, .inl (cZ, 768, (.inl (fun _ => 0)))), (q50, .inl (cI, 64, (.inl (fun _ => 0))))] H := hP
  have hD : va_D A [(h0, .inr (12, (fs_49.set 36 (.ref q50)))), (q1, .inl (cI, 4000, (.inl (fun _ => 0)))), (q3, .inl (cI, 6, (.inl (fun _ => 0)))), (q5, .inl (cI, 49152, (.inl (fun _ => 0)))), (q7, .inl (cZ, 768, (.inl (fun _ => 0)))), (q50, .inl (cI, 64, (.inl (fun _ => 0))))] := hD
  obtain ⟨fs_51, efs_51⟩ : ∃ y, y = (fs_49.set 36 (.ref q50)) := ⟨_, rfl⟩
  rw [← efs_51] at hP hD
  have hfl_51 : fs_51.length = 172 := by rw [efs_51, List.length_set]; exact hfl_49
  have hP := hP.sub (ws' := [(h0, .inr (12, fs_51)), (q1, .inl (cI, 4000, (.inl (fun _ => 0)))), (q3, .inl (cI, 6, (.inl (fun _ => 0)))), (q5, .inl (cI, 49152, (.inl (fun _ => 0)))), (q7, .inl (cZ, 768, (.inl (fun _ => 0))))]) [0, 1, 2, 3, 4] rfl
  have hD := hD.sub (ws' := [(h0, .inr (12, fs_51)), (q1, .inl (cI, 4000, (.inl (fun _ => 0)))), (q3, .inl (cI, 6, (.inl (fun _ => 0)))), (q5, .inl (cI, 49152, (.inl (fun _ => 0)))), (q7, .inl (cZ, 768, (.inl (fun _ => 0))))]) [0, 1, 2, 3, 4] (by decide) rfl
  refine lv_aload_n hx hb dX12_init_215 rfl (lv_at hl 0 rfl) ?_
  refine lv_sipush (v := 16384) hx hb dX12_init_216 (by decide) ?_
  refine nw_arr (atype := .int) (N' := 16384) (a0 := (16384, (.inl (fun _ => 0)))) hx hb (hts (.arrayClass .int) (List.mem_of_getElem? (i := 4) rfl)) rfl hK 0 (cI := cI) rfl hP hD hS hA (fun _ => rfl) (by decide) (by decide) (by decide) (Nat.le_of_ble_eq_true rfl) (Nat.le_of_ble_eq_true rfl) dX12_init_219 (fun q52 H hP hD hS => ?_)
  have hP : va_P (dC, dI) vwCl [(h0, .inr (12, fs_51)), (q1, .inl (cI, 4000, (.inl (fun _ => 0)))), (q3, .inl (cI, 6, (.inl (fun _ => 0)))), (q5, .inl (cI, 49152, (.inl (fun _ => 0)))), (q7, .inl (cZ, 768, (.inl (fun _ => 0)))), (q52, .inl (cI, 16384, (.inl (fun _ => 0))))] H := hP
  have hD : va_D A [(h0, .inr (12, fs_51)), (q1, .inl (cI, 4000, (.inl (fun _ => 0)))), (q3, .inl (cI, 6, (.inl (fun _ => 0)))), (q5, .inl (cI, 49152, (.inl (fun _ => 0)))), (q7, .inl (cZ, 768, (.inl (fun _ => 0)))), (q52, .inl (cI, 16384, (.inl (fun _ => 0))))] := hD
  refine W.widen (k := 26) (n := 278572) (by decide) (by decide) ?_
  refine va_putF (D := (dC, dI)) (ci := 12) (v := .ref q52) (ty := .array (.int)) (C := RX12) (T := TX12) (N := 172) hx hb hts inX12_init_c12 tyX12 tyX12_ok nmX12 hown hK hP hD hS 0 rfl rfl 37 (by decide) (hts (.fieldLink RX12 92 "DiskEvidenceModel" "image" "[I") (List.mem_of_getElem? (i := 34) rfl)) (fun _ h9 => h9) rfl hin rfl (by decide +kernel) rfl rfl (by rw [hfl_51]; decide) dX12_init_221 (fun H locs hP hD hS => ?_)
  have hP : va_P (dC, dI) vwCl [(h0, .inr (12, (fs_51.set 37 (.ref q52)))), (q1, .inl (cI, 4000, (.inl (fun _ => 0)))), (q3, .inl (cI, 6, (.inl (fun _ => 0)))), (q5, .inl (cI, 49152, (.inl (fun _ => 0)))), (q7, .inl (cZ, 768, (.inl (fun _ => 0)))), (q52, .inl (cI, 16384, (.inl (fun _ => 0))))] H := hP
  have hD : va_D A [(h0, .inr (12, (fs_51.set 37 (.ref q52)))), (q1, .inl (cI, 4000, (.inl (fun _ => 0)))), (q3, .inl (cI, 6, (.inl (fun _ => 0)))), (q5, .inl (cI, 49152, (.inl (fun _ => 0)))), (q7, .inl (cZ, 768, (.inl (fun _ => 0)))), (q52, .inl (cI, 16384, (.inl (fun _ => 0))))] := hD
  obtain ⟨fs_53, efs_53⟩ : ∃ y, y = (fs_51.set 37 (.ref q52)) := ⟨_, rfl⟩
  rw [← efs_53] at hP hD
  have hfl_53 : fs_53.length = 172 := by rw [efs_53, List.length_set]; exact hfl_51
  have hP := hP.sub (ws' := [(h0, .inr (12, fs_53)), (q1, .inl (cI, 4000, (.inl (fun _ => 0)))), (q3, .inl (cI, 6, (.inl (fun _ => 0)))), (q5, .inl (cI, 49152, (.inl (fun _ => 0)))), (q7, .inl (cZ, 768, (.inl (fun _ => 0))))]) [0, 1, 2, 3, 4] rfl
  have hD := hD.sub (ws' := [(h0, .inr (12, fs_53)), (q1, .inl (cI, 4000, (.inl (fun _ => 0)))), (q3, .inl (cI, 6, (.inl (fun _ => 0)))), (q5, .inl (cI, 49152, (.inl (fun _ => 0)))), (q7, .inl (cZ, 768, (.inl (fun _ => 0))))]) [0, 1, 2, 3, 4] (by decide) rfl
  refine lv_aload_n hx hb dX12_init_224 rfl (lv_at hl 0 rfl) ?_
  refine lv_sipush (v := 16384) hx hb dX12_init_225 (by decide) ?_
  refine nw_arr (atype := .int) (N' := 16384) (a0 := (16384, (.inl (fun _ => 0)))) hx hb (hts (.arrayClass .int) (List.mem_of_getElem? (i := 4) rfl)) rfl hK 0 (cI := cI) rfl hP hD hS hA (fun _ => rfl) (by decide) (by decide) (by decide) (Nat.le_of_ble_eq_true rfl) (Nat.le_of_ble_eq_true rfl) dX12_init_228 (fun q54 H hP hD hS => ?_)
  have hP : va_P (dC, dI) vwCl [(h0, .inr (12, fs_53)), (q1, .inl (cI, 4000, (.inl (fun _ => 0)))), (q3, .inl (cI, 6, (.inl (fun _ => 0)))), (q5, .inl (cI, 49152, (.inl (fun _ => 0)))), (q7, .inl (cZ, 768, (.inl (fun _ => 0)))), (q54, .inl (cI, 16384, (.inl (fun _ => 0))))] H := hP
  have hD : va_D A [(h0, .inr (12, fs_53)), (q1, .inl (cI, 4000, (.inl (fun _ => 0)))), (q3, .inl (cI, 6, (.inl (fun _ => 0)))), (q5, .inl (cI, 49152, (.inl (fun _ => 0)))), (q7, .inl (cZ, 768, (.inl (fun _ => 0)))), (q54, .inl (cI, 16384, (.inl (fun _ => 0))))] := hD
  refine W.widen (k := 27) (n := 294956) (by decide) (by decide) ?_
  refine va_putF (D := (dC, dI)) (ci := 12) (v := .ref q54) (ty := .array (.int)) (C := RX12) (T := TX12) (N := 172) hx hb hts inX12_init_c12 tyX12 tyX12_ok nmX12 hown hK hP hD hS 0 rfl rfl 38 (by decide) (hts (.fieldLink RX12 95 "DiskEvidenceModel" "old" "[I") (List.mem_of_getElem? (i := 35) rfl)) (fun _ h9 => h9) rfl hin rfl (by decide +kernel) rfl rfl (by rw [hfl_53]; decide) dX12_init_230 (fun H locs hP hD hS => ?_)
  have hP : va_P (dC, dI) vwCl [(h0, .inr (12, (fs_53.set 38 (.ref q54)))), (q1, .inl (cI, 4000, (.inl (fun _ => 0)))), (q3, .inl (cI, 6, (.inl (fun _ => 0)))), (q5, .inl (cI, 49152, (.inl (fun _ => 0)))), (q7, .inl (cZ, 768, (.inl (fun _ => 0)))), (q54, .inl (cI, 16384, (.inl (fun _ => 0))))] H := hP
  have hD : va_D A [(h0, .inr (12, (fs_53.set 38 (.ref q54)))), (q1, .inl (cI, 4000, (.inl (fun _ => 0)))), (q3, .inl (cI, 6, (.inl (fun _ => 0)))), (q5, .inl (cI, 49152, (.inl (fun _ => 0)))), (q7, .inl (cZ, 768, (.inl (fun _ => 0)))), (q54, .inl (cI, 16384, (.inl (fun _ => 0))))] := hD
  obtain ⟨fs_55, efs_55⟩ : ∃ y, y = (fs_53.set 38 (.ref q54)) := ⟨_, rfl⟩
  rw [← efs_55] at hP hD
  have hfl_55 : fs_55.length = 172 := by rw [efs_55, List.length_set]; exact hfl_53
  have hP := hP.sub (ws' := [(h0, .inr (12, fs_55)), (q1, .inl (cI, 4000, (.inl (fun _ => 0)))), (q3, .inl (cI, 6, (.inl (fun _ => 0)))), (q5, .inl (cI, 49152, (.inl (fun _ => 0)))), (q7, .inl (cZ, 768, (.inl (fun _ => 0))))]) [0, 1, 2, 3, 4] rfl
  have hD := hD.sub (ws' := [(h0, .inr (12, fs_55)), (q1, .inl (cI, 4000, (.inl (fun _ => 0)))), (q3, .inl (cI, 6, (.inl (fun _ => 0)))), (q5, .inl (cI, 49152, (.inl (fun _ => 0)))), (q7, .inl (cZ, 768, (.inl (fun _ => 0))))]) [0, 1, 2, 3, 4] (by decide) rfl
  refine lv_aload_n hx hb dX12_init_233 rfl (lv_at hl 0 rfl) ?_
  refine lv_bipush (v := 6) hx hb dX12_init_234 (by decide) ?_
  refine nw_arr (atype := .int) (N' := 6) (a0 := (6, (.inl (fun _ => 0)))) hx hb (hts (.arrayClass .int) (List.mem_of_getElem? (i := 4) rfl)) rfl hK 0 (cI := cI) rfl hP hD hS hA (fun _ => rfl) (by decide) (by decide) (by decide) (Nat.le_of_ble_eq_true rfl) (Nat.le_of_ble_eq_true rfl) dX12_init_236 (fun q56 H hP hD hS => ?_)
  have hP : va_P (dC, dI) vwCl [(h0, .inr (12, fs_55)), (q1, .inl (cI, 4000, (.inl (fun _ => 0)))), (q3, .inl (cI, 6, (.inl (fun _ => 0)))), (q5, .inl (cI, 49152, (.inl (fun _ => 0)))), (q7, .inl (cZ, 768, (.inl (fun _ => 0)))), (q56, .inl (cI, 6, (.inl (fun _ => 0))))] H := hP
  have hD : va_D A [(h0, .inr (12, fs_55)), (q1, .inl (cI, 4000, (.inl (fun _ => 0)))), (q3, .inl (cI, 6, (.inl (fun _ => 0)))), (q5, .inl (cI, 49152, (.inl (fun _ => 0)))), (q7, .inl (cZ, 768, (.inl (fun _ => 0)))), (q56, .inl (cI, 6, (.inl (fun _ => 0))))] := hD
  refine W.widen (k := 28) (n := 294962) (by decide) (by decide) ?_
  refine va_putF (D := (dC, dI)) (ci := 12) (v := .ref q56) (ty := .array (.int)) (C := RX12) (T := TX12) (N := 172) hx hb hts inX12_init_c12 tyX12 tyX12_ok nmX12 hown hK hP hD hS 0 rfl rfl 50 (by decide) (hts (.fieldLink RX12 98 "DiskEvidenceModel" "nameFrom" "[I") (List.mem_of_getElem? (i := 36) rfl)) (fun _ h9 => h9) rfl hin rfl (by decide +kernel) rfl rfl (by rw [hfl_55]; decide) dX12_init_238 (fun H locs hP hD hS => ?_)
  have hP : va_P (dC, dI) vwCl [(h0, .inr (12, (fs_55.set 50 (.ref q56)))), (q1, .inl (cI, 4000, (.inl (fun _ => 0)))), (q3, .inl (cI, 6, (.inl (fun _ => 0)))), (q5, .inl (cI, 49152, (.inl (fun _ => 0)))), (q7, .inl (cZ, 768, (.inl (fun _ => 0)))), (q56, .inl (cI, 6, (.inl (fun _ => 0))))] H := hP
  have hD : va_D A [(h0, .inr (12, (fs_55.set 50 (.ref q56)))), (q1, .inl (cI, 4000, (.inl (fun _ => 0)))), (q3, .inl (cI, 6, (.inl (fun _ => 0)))), (q5, .inl (cI, 49152, (.inl (fun _ => 0)))), (q7, .inl (cZ, 768, (.inl (fun _ => 0)))), (q56, .inl (cI, 6, (.inl (fun _ => 0))))] := hD
  obtain ⟨fs_57, efs_57⟩ : ∃ y, y = (fs_55.set 50 (.ref q56)) := ⟨_, rfl⟩
  rw [← efs_57] at hP hD
  have hfl_57 : fs_57.length = 172 := by rw [efs_57, List.length_set]; exact hfl_55
  have hP := hP.sub (ws' := [(h0, .inr (12, fs_57)), (q1, .inl (cI, 4000, (.inl (fun _ => 0)))), (q3, .inl (cI, 6, (.inl (fun _ => 0)))), (q5, .inl (cI, 49152, (.inl (fun _ => 0)))), (q7, .inl (cZ, 768, (.inl (fun _ => 0))))]) [0, 1, 2, 3, 4] rfl
  have hD := hD.sub (ws' := [(h0, .inr (12, fs_57)), (q1, .inl (cI, 4000, (.inl (fun _ => 0)))), (q3, .inl (cI, 6, (.inl (fun _ => 0)))), (q5, .inl (cI, 49152, (.inl (fun _ => 0)))), (q7, .inl (cZ, 768, (.inl (fun _ => 0))))]) [0, 1, 2, 3, 4] (by decide) rfl
  refine lv_aload_n hx hb dX12_init_241 rfl (lv_at hl 0 rfl) ?_
  refine lv_bipush (v := 6) hx hb dX12_init_242 (by decide) ?_
  refine nw_arr (atype := .int) (N' := 6) (a0 := (6, (.inl (fun _ => 0)))) hx hb (hts (.arrayClass .int) (List.mem_of_getElem? (i := 4) rfl)) rfl hK 0 (cI := cI) rfl hP hD hS hA (fun _ => rfl) (by decide) (by decide) (by decide) (Nat.le_of_ble_eq_true rfl) (Nat.le_of_ble_eq_true rfl) dX12_init_244 (fun q58 H hP hD hS => ?_)
  have hP : va_P (dC, dI) vwCl [(h0, .inr (12, fs_57)), (q1, .inl (cI, 4000, (.inl (fun _ => 0)))), (q3, .inl (cI, 6, (.inl (fun _ => 0)))), (q5, .inl (cI, 49152, (.inl (fun _ => 0)))), (q7, .inl (cZ, 768, (.inl (fun _ => 0)))), (q58, .inl (cI, 6, (.inl (fun _ => 0))))] H := hP
  have hD : va_D A [(h0, .inr (12, fs_57)), (q1, .inl (cI, 4000, (.inl (fun _ => 0)))), (q3, .inl (cI, 6, (.inl (fun _ => 0)))), (q5, .inl (cI, 49152, (.inl (fun _ => 0)))), (q7, .inl (cZ, 768, (.inl (fun _ => 0)))), (q58, .inl (cI, 6, (.inl (fun _ => 0))))] := hD
  refine W.widen (k := 29) (n := 294968) (by decide) (by decide) ?_
  refine va_putF (D := (dC, dI)) (ci := 12) (v := .ref q58) (ty := .array (.int)) (C := RX12) (T := TX12) (N := 172) hx hb hts inX12_init_c12 tyX12 tyX12_ok nmX12 hown hK hP hD hS 0 rfl rfl 51 (by decide) (hts (.fieldLink RX12 101 "DiskEvidenceModel" "nameTo" "[I") (List.mem_of_getElem? (i := 37) rfl)) (fun _ h9 => h9) rfl hin rfl (by decide +kernel) rfl rfl (by rw [hfl_57]; decide) dX12_init_246 (fun H locs hP hD hS => ?_)
  have hP : va_P (dC, dI) vwCl [(h0, .inr (12, (fs_57.set 51 (.ref q58)))), (q1, .inl (cI, 4000, (.inl (fun _ => 0)))), (q3, .inl (cI, 6, (.inl (fun _ => 0)))), (q5, .inl (cI, 49152, (.inl (fun _ => 0)))), (q7, .inl (cZ, 768, (.inl (fun _ => 0)))), (q58, .inl (cI, 6, (.inl (fun _ => 0))))] H := hP
  have hD : va_D A [(h0, .inr (12, (fs_57.set 51 (.ref q58)))), (q1, .inl (cI, 4000, (.inl (fun _ => 0)))), (q3, .inl (cI, 6, (.inl (fun _ => 0)))), (q5, .inl (cI, 49152, (.inl (fun _ => 0)))), (q7, .inl (cZ, 768, (.inl (fun _ => 0)))), (q58, .inl (cI, 6, (.inl (fun _ => 0))))] := hD
  obtain ⟨fs_59, efs_59⟩ : ∃ y, y = (fs_57.set 51 (.ref q58)) := ⟨_, rfl⟩
  rw [← efs_59] at hP hD
  have hfl_59 : fs_59.length = 172 := by rw [efs_59, List.length_set]; exact hfl_57
  have hP := hP.sub (ws' := [(h0, .inr (12, fs_59)), (q1, .inl (cI, 4000, (.inl (fun _ => 0)))), (q3, .inl (cI, 6, (.inl (fun _ => 0)))), (q5, .inl (cI, 49152, (.inl (fun _ => 0)))), (q7, .inl (cZ, 768, (.inl (fun _ => 0))))]) [0, 1, 2, 3, 4] rfl
  have hD := hD.sub (ws' := [(h0, .inr (12, fs_59)), (q1, .inl (cI, 4000, (.inl (fun _ => 0)))), (q3, .inl (cI, 6, (.inl (fun _ => 0)))), (q5, .inl (cI, 49152, (.inl (fun _ => 0)))), (q7, .inl (cZ, 768, (.inl (fun _ => 0))))]) [0, 1, 2, 3, 4] (by decide) rfl
  refine lv_aload_n hx hb dX12_init_249 rfl (lv_at hl 0 rfl) ?_
  refine lv_sipush (v := 320) hx hb dX12_init_250 (by decide) ?_
  refine nw_arr (atype := .int) (N' := 320) (a0 := (320, (.inl (fun _ => 0)))) hx hb (hts (.arrayClass .int) (List.mem_of_getElem? (i := 4) rfl)) rfl hK 0 (cI := cI) rfl hP hD hS hA (fun _ => rfl) (by decide) (by decide) (by decide) (Nat.le_of_ble_eq_true rfl) (Nat.le_of_ble_eq_true rfl) dX12_init_253 (fun q60 H hP hD hS => ?_)
  have hP : va_P (dC, dI) vwCl [(h0, .inr (12, fs_59)), (q1, .inl (cI, 4000, (.inl (fun _ => 0)))), (q3, .inl (cI, 6, (.inl (fun _ => 0)))), (q5, .inl (cI, 49152, (.inl (fun _ => 0)))), (q7, .inl (cZ, 768, (.inl (fun _ => 0)))), (q60, .inl (cI, 320, (.inl (fun _ => 0))))] H := hP
  have hD : va_D A [(h0, .inr (12, fs_59)), (q1, .inl (cI, 4000, (.inl (fun _ => 0)))), (q3, .inl (cI, 6, (.inl (fun _ => 0)))), (q5, .inl (cI, 49152, (.inl (fun _ => 0)))), (q7, .inl (cZ, 768, (.inl (fun _ => 0)))), (q60, .inl (cI, 320, (.inl (fun _ => 0))))] := hD
  refine W.widen (k := 30) (n := 295288) (by decide) (by decide) ?_
  refine va_putF (D := (dC, dI)) (ci := 12) (v := .ref q60) (ty := .array (.int)) (C := RX12) (T := TX12) (N := 172) hx hb hts inX12_init_c12 tyX12 tyX12_ok nmX12 hown hK hP hD hS 0 rfl rfl 54 (by decide) (hts (.fieldLink RX12 104 "DiskEvidenceModel" "link" "[I") (List.mem_of_getElem? (i := 38) rfl)) (fun _ h9 => h9) rfl hin rfl (by decide +kernel) rfl rfl (by rw [hfl_59]; decide) dX12_init_255 (fun H locs hP hD hS => ?_)
  have hP : va_P (dC, dI) vwCl [(h0, .inr (12, (fs_59.set 54 (.ref q60)))), (q1, .inl (cI, 4000, (.inl (fun _ => 0)))), (q3, .inl (cI, 6, (.inl (fun _ => 0)))), (q5, .inl (cI, 49152, (.inl (fun _ => 0)))), (q7, .inl (cZ, 768, (.inl (fun _ => 0)))), (q60, .inl (cI, 320, (.inl (fun _ => 0))))] H := hP
  have hD : va_D A [(h0, .inr (12, (fs_59.set 54 (.ref q60)))), (q1, .inl (cI, 4000, (.inl (fun _ => 0)))), (q3, .inl (cI, 6, (.inl (fun _ => 0)))), (q5, .inl (cI, 49152, (.inl (fun _ => 0)))), (q7, .inl (cZ, 768, (.inl (fun _ => 0)))), (q60, .inl (cI, 320, (.inl (fun _ => 0))))] := hD
  obtain ⟨fs_61, efs_61⟩ : ∃ y, y = (fs_59.set 54 (.ref q60)) := ⟨_, rfl⟩
  rw [← efs_61] at hP hD
  have hfl_61 : fs_61.length = 172 := by rw [efs_61, List.length_set]; exact hfl_59
  have hP := hP.sub (ws' := [(h0, .inr (12, fs_61)), (q1, .inl (cI, 4000, (.inl (fun _ => 0)))), (q3, .inl (cI, 6, (.inl (fun _ => 0)))), (q5, .inl (cI, 49152, (.inl (fun _ => 0)))), (q7, .inl (cZ, 768, (.inl (fun _ => 0))))]) [0, 1, 2, 3, 4] rfl
  have hD := hD.sub (ws' := [(h0, .inr (12, fs_61)), (q1, .inl (cI, 4000, (.inl (fun _ => 0)))), (q3, .inl (cI, 6, (.inl (fun _ => 0)))), (q5, .inl (cI, 49152, (.inl (fun _ => 0)))), (q7, .inl (cZ, 768, (.inl (fun _ => 0))))]) [0, 1, 2, 3, 4] (by decide) rfl
  refine lv_aload_n hx hb dX12_init_258 rfl (lv_at hl 0 rfl) ?_
  refine lv_bipush (v := 6) hx hb dX12_init_259 (by decide) ?_
  refine nw_arr (atype := .int) (N' := 6) (a0 := (6, (.inl (fun _ => 0)))) hx hb (hts (.arrayClass .int) (List.mem_of_getElem? (i := 4) rfl)) rfl hK 0 (cI := cI) rfl hP hD hS hA (fun _ => rfl) (by decide) (by decide) (by decide) (Nat.le_of_ble_eq_true rfl) (Nat.le_of_ble_eq_true rfl) dX12_init_261 (fun q62 H hP hD hS => ?_)
  have hP : va_P (dC, dI) vwCl [(h0, .inr (12, fs_61)), (q1, .inl (cI, 4000, (.inl (fun _ => 0)))), (q3, .inl (cI, 6, (.inl (fun _ => 0)))), (q5, .inl (cI, 49152, (.inl (fun _ => 0)))), (q7, .inl (cZ, 768, (.inl (fun _ => 0)))), (q62, .inl (cI, 6, (.inl (fun _ => 0))))] H := hP
  have hD : va_D A [(h0, .inr (12, fs_61)), (q1, .inl (cI, 4000, (.inl (fun _ => 0)))), (q3, .inl (cI, 6, (.inl (fun _ => 0)))), (q5, .inl (cI, 49152, (.inl (fun _ => 0)))), (q7, .inl (cZ, 768, (.inl (fun _ => 0)))), (q62, .inl (cI, 6, (.inl (fun _ => 0))))] := hD
  refine W.widen (k := 31) (n := 295294) (by decide) (by decide) ?_
  refine va_putF (D := (dC, dI)) (ci := 12) (v := .ref q62) (ty := .array (.int)) (C := RX12) (T := TX12) (N := 172) hx hb hts inX12_init_c12 tyX12 tyX12_ok nmX12 hown hK hP hD hS 0 rfl rfl 60 (by decide) (hts (.fieldLink RX12 107 "DiskEvidenceModel" "treeForm" "[I") (List.mem_of_getElem? (i := 39) rfl)) (fun _ h9 => h9) rfl hin rfl (by decide +kernel) rfl rfl (by rw [hfl_61]; decide) dX12_init_263 (fun H locs hP hD hS => ?_)
  have hP : va_P (dC, dI) vwCl [(h0, .inr (12, (fs_61.set 60 (.ref q62)))), (q1, .inl (cI, 4000, (.inl (fun _ => 0)))), (q3, .inl (cI, 6, (.inl (fun _ => 0)))), (q5, .inl (cI, 49152, (.inl (fun _ => 0)))), (q7, .inl (cZ, 768, (.inl (fun _ => 0)))), (q62, .inl (cI, 6, (.inl (fun _ => 0))))] H := hP
  have hD : va_D A [(h0, .inr (12, (fs_61.set 60 (.ref q62)))), (q1, .inl (cI, 4000, (.inl (fun _ => 0)))), (q3, .inl (cI, 6, (.inl (fun _ => 0)))), (q5, .inl (cI, 49152, (.inl (fun _ => 0)))), (q7, .inl (cZ, 768, (.inl (fun _ => 0)))), (q62, .inl (cI, 6, (.inl (fun _ => 0))))] := hD
  obtain ⟨fs_63, efs_63⟩ : ∃ y, y = (fs_61.set 60 (.ref q62)) := ⟨_, rfl⟩
  rw [← efs_63] at hP hD
  have hfl_63 : fs_63.length = 172 := by rw [efs_63, List.length_set]; exact hfl_61
  have hP := hP.sub (ws' := [(h0, .inr (12, fs_63)), (q1, .inl (cI, 4000, (.inl (fun _ => 0)))), (q3, .inl (cI, 6, (.inl (fun _ => 0)))), (q5, .inl (cI, 49152, (.inl (fun _ => 0)))), (q7, .inl (cZ, 768, (.inl (fun _ => 0))))]) [0, 1, 2, 3, 4] rfl
  have hD := hD.sub (ws' := [(h0, .inr (12, fs_63)), (q1, .inl (cI, 4000, (.inl (fun _ => 0)))), (q3, .inl (cI, 6, (.inl (fun _ => 0)))), (q5, .inl (cI, 49152, (.inl (fun _ => 0)))), (q7, .inl (cZ, 768, (.inl (fun _ => 0))))]) [0, 1, 2, 3, 4] (by decide) rfl
  refine lv_aload_n hx hb dX12_init_266 rfl (lv_at hl 0 rfl) ?_
  refine lv_bipush (v := 6) hx hb dX12_init_267 (by decide) ?_
  refine nw_arr (atype := .int) (N' := 6) (a0 := (6, (.inl (fun _ => 0)))) hx hb (hts (.arrayClass .int) (List.mem_of_getElem? (i := 4) rfl)) rfl hK 0 (cI := cI) rfl hP hD hS hA (fun _ => rfl) (by decide) (by decide) (by decide) (Nat.le_of_ble_eq_true rfl) (Nat.le_of_ble_eq_true rfl) dX12_init_269 (fun q64 H hP hD hS => ?_)
  have hP : va_P (dC, dI) vwCl [(h0, .inr (12, fs_63)), (q1, .inl (cI, 4000, (.inl (fun _ => 0)))), (q3, .inl (cI, 6, (.inl (fun _ => 0)))), (q5, .inl (cI, 49152, (.inl (fun _ => 0)))), (q7, .inl (cZ, 768, (.inl (fun _ => 0)))), (q64, .inl (cI, 6, (.inl (fun _ => 0))))] H := hP
  have hD : va_D A [(h0, .inr (12, fs_63)), (q1, .inl (cI, 4000, (.inl (fun _ => 0)))), (q3, .inl (cI, 6, (.inl (fun _ => 0)))), (q5, .inl (cI, 49152, (.inl (fun _ => 0)))), (q7, .inl (cZ, 768, (.inl (fun _ => 0)))), (q64, .inl (cI, 6, (.inl (fun _ => 0))))] := hD
  refine W.widen (k := 32) (n := 295300) (by decide) (by decide) ?_
  refine va_putF (D := (dC, dI)) (ci := 12) (v := .ref q64) (ty := .array (.int)) (C := RX12) (T := TX12) (N := 172) hx hb hts inX12_init_c12 tyX12 tyX12_ok nmX12 hown hK hP hD hS 0 rfl rfl 61 (by decide) (hts (.fieldLink RX12 110 "DiskEvidenceModel" "treeVolume" "[I") (List.mem_of_getElem? (i := 40) rfl)) (fun _ h9 => h9) rfl hin rfl (by decide +kernel) rfl rfl (by rw [hfl_63]; decide) dX12_init_271 (fun H locs hP hD hS => ?_)
  have hP : va_P (dC, dI) vwCl [(h0, .inr (12, (fs_63.set 61 (.ref q64)))), (q1, .inl (cI, 4000, (.inl (fun _ => 0)))), (q3, .inl (cI, 6, (.inl (fun _ => 0)))), (q5, .inl (cI, 49152, (.inl (fun _ => 0)))), (q7, .inl (cZ, 768, (.inl (fun _ => 0)))), (q64, .inl (cI, 6, (.inl (fun _ => 0))))] H := hP
  have hD : va_D A [(h0, .inr (12, (fs_63.set 61 (.ref q64)))), (q1, .inl (cI, 4000, (.inl (fun _ => 0)))), (q3, .inl (cI, 6, (.inl (fun _ => 0)))), (q5, .inl (cI, 49152, (.inl (fun _ => 0)))), (q7, .inl (cZ, 768, (.inl (fun _ => 0)))), (q64, .inl (cI, 6, (.inl (fun _ => 0))))] := hD
  obtain ⟨fs_65, efs_65⟩ : ∃ y, y = (fs_63.set 61 (.ref q64)) := ⟨_, rfl⟩
  rw [← efs_65] at hP hD
  have hfl_65 : fs_65.length = 172 := by rw [efs_65, List.length_set]; exact hfl_63
  have hP := hP.sub (ws' := [(h0, .inr (12, fs_65)), (q1, .inl (cI, 4000, (.inl (fun _ => 0)))), (q3, .inl (cI, 6, (.inl (fun _ => 0)))), (q5, .inl (cI, 49152, (.inl (fun _ => 0)))), (q7, .inl (cZ, 768, (.inl (fun _ => 0))))]) [0, 1, 2, 3, 4] rfl
  have hD := hD.sub (ws' := [(h0, .inr (12, fs_65)), (q1, .inl (cI, 4000, (.inl (fun _ => 0)))), (q3, .inl (cI, 6, (.inl (fun _ => 0)))), (q5, .inl (cI, 49152, (.inl (fun _ => 0)))), (q7, .inl (cZ, 768, (.inl (fun _ => 0))))]) [0, 1, 2, 3, 4] (by decide) rfl
  refine lv_aload_n hx hb dX12_init_274 rfl (lv_at hl 0 rfl) ?_
  refine lv_bipush (v := 6) hx hb dX12_init_275 (by decide) ?_
  refine nw_arr (atype := .int) (N' := 6) (a0 := (6, (.inl (fun _ => 0)))) hx hb (hts (.arrayClass .int) (List.mem_of_getElem? (i := 4) rfl)) rfl hK 0 (cI := cI) rfl hP hD hS hA (fun _ => rfl) (by decide) (by decide) (by decide) (Nat.le_of_ble_eq_true rfl) (Nat.le_of_ble_eq_true rfl) dX12_init_277 (fun q66 H hP hD hS => ?_)
  have hP : va_P (dC, dI) vwCl [(h0, .inr (12, fs_65)), (q1, .inl (cI, 4000, (.inl (fun _ => 0)))), (q3, .inl (cI, 6, (.inl (fun _ => 0)))), (q5, .inl (cI, 49152, (.inl (fun _ => 0)))), (q7, .inl (cZ, 768, (.inl (fun _ => 0)))), (q66, .inl (cI, 6, (.inl (fun _ => 0))))] H := hP
  have hD : va_D A [(h0, .inr (12, fs_65)), (q1, .inl (cI, 4000, (.inl (fun _ => 0)))), (q3, .inl (cI, 6, (.inl (fun _ => 0)))), (q5, .inl (cI, 49152, (.inl (fun _ => 0)))), (q7, .inl (cZ, 768, (.inl (fun _ => 0)))), (q66, .inl (cI, 6, (.inl (fun _ => 0))))] := hD
  refine W.widen (k := 33) (n := 295306) (by decide) (by decide) ?_
  refine va_putF (D := (dC, dI)) (ci := 12) (v := .ref q66) (ty := .array (.int)) (C := RX12) (T := TX12) (N := 172) hx hb hts inX12_init_c12 tyX12 tyX12_ok nmX12 hown hK hP hD hS 0 rfl rfl 62 (by decide) (hts (.fieldLink RX12 113 "DiskEvidenceModel" "treeSpan" "[I") (List.mem_of_getElem? (i := 41) rfl)) (fun _ h9 => h9) rfl hin rfl (by decide +kernel) rfl rfl (by rw [hfl_65]; decide) dX12_init_279 (fun H locs hP hD hS => ?_)
  have hP : va_P (dC, dI) vwCl [(h0, .inr (12, (fs_65.set 62 (.ref q66)))), (q1, .inl (cI, 4000, (.inl (fun _ => 0)))), (q3, .inl (cI, 6, (.inl (fun _ => 0)))), (q5, .inl (cI, 49152, (.inl (fun _ => 0)))), (q7, .inl (cZ, 768, (.inl (fun _ => 0)))), (q66, .inl (cI, 6, (.inl (fun _ => 0))))] H := hP
  have hD : va_D A [(h0, .inr (12, (fs_65.set 62 (.ref q66)))), (q1, .inl (cI, 4000, (.inl (fun _ => 0)))), (q3, .inl (cI, 6, (.inl (fun _ => 0)))), (q5, .inl (cI, 49152, (.inl (fun _ => 0)))), (q7, .inl (cZ, 768, (.inl (fun _ => 0)))), (q66, .inl (cI, 6, (.inl (fun _ => 0))))] := hD
  obtain ⟨fs_67, efs_67⟩ : ∃ y, y = (fs_65.set 62 (.ref q66)) := ⟨_, rfl⟩
  rw [← efs_67] at hP hD
  have hfl_67 : fs_67.length = 172 := by rw [efs_67, List.length_set]; exact hfl_65
  have hP := hP.sub (ws' := [(h0, .inr (12, fs_67)), (q1, .inl (cI, 4000, (.inl (fun _ => 0)))), (q3, .inl (cI, 6, (.inl (fun _ => 0)))), (q5, .inl (cI, 49152, (.inl (fun _ => 0)))), (q7, .inl (cZ, 768, (.inl (fun _ => 0))))]) [0, 1, 2, 3, 4] rfl
  have hD := hD.sub (ws' := [(h0, .inr (12, fs_67)), (q1, .inl (cI, 4000, (.inl (fun _ => 0)))), (q3, .inl (cI, 6, (.inl (fun _ => 0)))), (q5, .inl (cI, 49152, (.inl (fun _ => 0)))), (q7, .inl (cZ, 768, (.inl (fun _ => 0))))]) [0, 1, 2, 3, 4] (by decide) rfl
  refine lv_aload_n hx hb dX12_init_282 rfl (lv_at hl 0 rfl) ?_
  refine lv_bipush (v := 6) hx hb dX12_init_283 (by decide) ?_
  refine nw_arr (atype := .int) (N' := 6) (a0 := (6, (.inl (fun _ => 0)))) hx hb (hts (.arrayClass .int) (List.mem_of_getElem? (i := 4) rfl)) rfl hK 0 (cI := cI) rfl hP hD hS hA (fun _ => rfl) (by decide) (by decide) (by decide) (Nat.le_of_ble_eq_true rfl) (Nat.le_of_ble_eq_true rfl) dX12_init_285 (fun q68 H hP hD hS => ?_)
  have hP : va_P (dC, dI) vwCl [(h0, .inr (12, fs_67)), (q1, .inl (cI, 4000, (.inl (fun _ => 0)))), (q3, .inl (cI, 6, (.inl (fun _ => 0)))), (q5, .inl (cI, 49152, (.inl (fun _ => 0)))), (q7, .inl (cZ, 768, (.inl (fun _ => 0)))), (q68, .inl (cI, 6, (.inl (fun _ => 0))))] H := hP
  have hD : va_D A [(h0, .inr (12, fs_67)), (q1, .inl (cI, 4000, (.inl (fun _ => 0)))), (q3, .inl (cI, 6, (.inl (fun _ => 0)))), (q5, .inl (cI, 49152, (.inl (fun _ => 0)))), (q7, .inl (cZ, 768, (.inl (fun _ => 0)))), (q68, .inl (cI, 6, (.inl (fun _ => 0))))] := hD
  refine W.widen (k := 34) (n := 295312) (by decide) (by decide) ?_
  refine va_putF (D := (dC, dI)) (ci := 12) (v := .ref q68) (ty := .array (.int)) (C := RX12) (T := TX12) (N := 172) hx hb hts inX12_init_c12 tyX12 tyX12_ok nmX12 hown hK hP hD hS 0 rfl rfl 63 (by decide) (hts (.fieldLink RX12 116 "DiskEvidenceModel" "treeBlocks" "[I") (List.mem_of_getElem? (i := 42) rfl)) (fun _ h9 => h9) rfl hin rfl (by decide +kernel) rfl rfl (by rw [hfl_67]; decide) dX12_init_287 (fun H locs hP hD hS => ?_)
  have hP : va_P (dC, dI) vwCl [(h0, .inr (12, (fs_67.set 63 (.ref q68)))), (q1, .inl (cI, 4000, (.inl (fun _ => 0)))), (q3, .inl (cI, 6, (.inl (fun _ => 0)))), (q5, .inl (cI, 49152, (.inl (fun _ => 0)))), (q7, .inl (cZ, 768, (.inl (fun _ => 0)))), (q68, .inl (cI, 6, (.inl (fun _ => 0))))] H := hP
  have hD : va_D A [(h0, .inr (12, (fs_67.set 63 (.ref q68)))), (q1, .inl (cI, 4000, (.inl (fun _ => 0)))), (q3, .inl (cI, 6, (.inl (fun _ => 0)))), (q5, .inl (cI, 49152, (.inl (fun _ => 0)))), (q7, .inl (cZ, 768, (.inl (fun _ => 0)))), (q68, .inl (cI, 6, (.inl (fun _ => 0))))] := hD
  obtain ⟨fs_69, efs_69⟩ : ∃ y, y = (fs_67.set 63 (.ref q68)) := ⟨_, rfl⟩
  rw [← efs_69] at hP hD
  have hfl_69 : fs_69.length = 172 := by rw [efs_69, List.length_set]; exact hfl_67
  have hP := hP.sub (ws' := [(h0, .inr (12, fs_69)), (q1, .inl (cI, 4000, (.inl (fun _ => 0)))), (q3, .inl (cI, 6, (.inl (fun _ => 0)))), (q5, .inl (cI, 49152, (.inl (fun _ => 0)))), (q7, .inl (cZ, 768, (.inl (fun _ => 0))))]) [0, 1, 2, 3, 4] rfl
  have hD := hD.sub (ws' := [(h0, .inr (12, fs_69)), (q1, .inl (cI, 4000, (.inl (fun _ => 0)))), (q3, .inl (cI, 6, (.inl (fun _ => 0)))), (q5, .inl (cI, 49152, (.inl (fun _ => 0)))), (q7, .inl (cZ, 768, (.inl (fun _ => 0))))]) [0, 1, 2, 3, 4] (by decide) rfl
  refine lv_aload_n hx hb dX12_init_290 rfl (lv_at hl 0 rfl) ?_
  refine lv_bipush (v := 6) hx hb dX12_init_291 (by decide) ?_
  refine nw_arr (atype := .int) (N' := 6) (a0 := (6, (.inl (fun _ => 0)))) hx hb (hts (.arrayClass .int) (List.mem_of_getElem? (i := 4) rfl)) rfl hK 0 (cI := cI) rfl hP hD hS hA (fun _ => rfl) (by decide) (by decide) (by decide) (Nat.le_of_ble_eq_true rfl) (Nat.le_of_ble_eq_true rfl) dX12_init_293 (fun q70 H hP hD hS => ?_)
  have hP : va_P (dC, dI) vwCl [(h0, .inr (12, fs_69)), (q1, .inl (cI, 4000, (.inl (fun _ => 0)))), (q3, .inl (cI, 6, (.inl (fun _ => 0)))), (q5, .inl (cI, 49152, (.inl (fun _ => 0)))), (q7, .inl (cZ, 768, (.inl (fun _ => 0)))), (q70, .inl (cI, 6, (.inl (fun _ => 0))))] H := hP
  have hD : va_D A [(h0, .inr (12, fs_69)), (q1, .inl (cI, 4000, (.inl (fun _ => 0)))), (q3, .inl (cI, 6, (.inl (fun _ => 0)))), (q5, .inl (cI, 49152, (.inl (fun _ => 0)))), (q7, .inl (cZ, 768, (.inl (fun _ => 0)))), (q70, .inl (cI, 6, (.inl (fun _ => 0))))] := hD
  refine W.widen (k := 35) (n := 295318) (by decide) (by decide) ?_
  refine va_putF (D := (dC, dI)) (ci := 12) (v := .ref q70) (ty := .array (.int)) (C := RX12) (T := TX12) (N := 172) hx hb hts inX12_init_c12 tyX12 tyX12_ok nmX12 hown hK hP hD hS 0 rfl rfl 64 (by decide) (hts (.fieldLink RX12 119 "DiskEvidenceModel" "treeZone" "[I") (List.mem_of_getElem? (i := 43) rfl)) (fun _ h9 => h9) rfl hin rfl (by decide +kernel) rfl rfl (by rw [hfl_69]; decide) dX12_init_295 (fun H locs hP hD hS => ?_)
  have hP : va_P (dC, dI) vwCl [(h0, .inr (12, (fs_69.set 64 (.ref q70)))), (q1, .inl (cI, 4000, (.inl (fun _ => 0)))), (q3, .inl (cI, 6, (.inl (fun _ => 0)))), (q5, .inl (cI, 49152, (.inl (fun _ => 0)))), (q7, .inl (cZ, 768, (.inl (fun _ => 0)))), (q70, .inl (cI, 6, (.inl (fun _ => 0))))] H := hP
  have hD : va_D A [(h0, .inr (12, (fs_69.set 64 (.ref q70)))), (q1, .inl (cI, 4000, (.inl (fun _ => 0)))), (q3, .inl (cI, 6, (.inl (fun _ => 0)))), (q5, .inl (cI, 49152, (.inl (fun _ => 0)))), (q7, .inl (cZ, 768, (.inl (fun _ => 0)))), (q70, .inl (cI, 6, (.inl (fun _ => 0))))] := hD
  obtain ⟨fs_71, efs_71⟩ : ∃ y, y = (fs_69.set 64 (.ref q70)) := ⟨_, rfl⟩
  rw [← efs_71] at hP hD
  have hfl_71 : fs_71.length = 172 := by rw [efs_71, List.length_set]; exact hfl_69
  have hP := hP.sub (ws' := [(h0, .inr (12, fs_71)), (q1, .inl (cI, 4000, (.inl (fun _ => 0)))), (q3, .inl (cI, 6, (.inl (fun _ => 0)))), (q5, .inl (cI, 49152, (.inl (fun _ => 0)))), (q7, .inl (cZ, 768, (.inl (fun _ => 0))))]) [0, 1, 2, 3, 4] rfl
  have hD := hD.sub (ws' := [(h0, .inr (12, fs_71)), (q1, .inl (cI, 4000, (.inl (fun _ => 0)))), (q3, .inl (cI, 6, (.inl (fun _ => 0)))), (q5, .inl (cI, 49152, (.inl (fun _ => 0)))), (q7, .inl (cZ, 768, (.inl (fun _ => 0))))]) [0, 1, 2, 3, 4] (by decide) rfl
  refine lv_aload_n hx hb dX12_init_298 rfl (lv_at hl 0 rfl) ?_
  refine lv_ldc (v := 98304) hx hb hown (hts (.constant RX12 122 (98304)) (List.mem_of_getElem? (i := 44) rfl)) dX12_init_299 ?_
  refine nw_arr (atype := .int) (N' := 98304) (a0 := (98304, (.inl (fun _ => 0)))) hx hb (hts (.arrayClass .int) (List.mem_of_getElem? (i := 4) rfl)) rfl hK 0 (cI := cI) rfl hP hD hS hA (fun _ => rfl) (by decide) (by decide) (by decide) (Nat.le_of_ble_eq_true rfl) (Nat.le_of_ble_eq_true rfl) dX12_init_301 (fun q72 H hP hD hS => ?_)
  have hP : va_P (dC, dI) vwCl [(h0, .inr (12, fs_71)), (q1, .inl (cI, 4000, (.inl (fun _ => 0)))), (q3, .inl (cI, 6, (.inl (fun _ => 0)))), (q5, .inl (cI, 49152, (.inl (fun _ => 0)))), (q7, .inl (cZ, 768, (.inl (fun _ => 0)))), (q72, .inl (cI, 98304, (.inl (fun _ => 0))))] H := hP
  have hD : va_D A [(h0, .inr (12, fs_71)), (q1, .inl (cI, 4000, (.inl (fun _ => 0)))), (q3, .inl (cI, 6, (.inl (fun _ => 0)))), (q5, .inl (cI, 49152, (.inl (fun _ => 0)))), (q7, .inl (cZ, 768, (.inl (fun _ => 0)))), (q72, .inl (cI, 98304, (.inl (fun _ => 0))))] := hD
  refine W.widen (k := 36) (n := 393622) (by decide) (by decide) ?_
  refine va_putF (D := (dC, dI)) (ci := 12) (v := .ref q72) (ty := .array (.int)) (C := RX12) (T := TX12) (N := 172) hx hb hts inX12_init_c12 tyX12 tyX12_ok nmX12 hown hK hP hD hS 0 rfl rfl 65 (by decide) (hts (.fieldLink RX12 123 "DiskEvidenceModel" "treeBytes" "[I") (List.mem_of_getElem? (i := 45) rfl)) (fun _ h9 => h9) rfl hin rfl (by decide +kernel) rfl rfl (by rw [hfl_71]; decide) dX12_init_303 (fun H locs hP hD hS => ?_)
  have hP : va_P (dC, dI) vwCl [(h0, .inr (12, (fs_71.set 65 (.ref q72)))), (q1, .inl (cI, 4000, (.inl (fun _ => 0)))), (q3, .inl (cI, 6, (.inl (fun _ => 0)))), (q5, .inl (cI, 49152, (.inl (fun _ => 0)))), (q7, .inl (cZ, 768, (.inl (fun _ => 0)))), (q72, .inl (cI, 98304, (.inl (fun _ => 0))))] H := hP
  have hD : va_D A [(h0, .inr (12, (fs_71.set 65 (.ref q72)))), (q1, .inl (cI, 4000, (.inl (fun _ => 0)))), (q3, .inl (cI, 6, (.inl (fun _ => 0)))), (q5, .inl (cI, 49152, (.inl (fun _ => 0)))), (q7, .inl (cZ, 768, (.inl (fun _ => 0)))), (q72, .inl (cI, 98304, (.inl (fun _ => 0))))] := hD
  obtain ⟨fs_73, efs_73⟩ : ∃ y, y = (fs_71.set 65 (.ref q72)) := ⟨_, rfl⟩
  rw [← efs_73] at hP hD
  have hfl_73 : fs_73.length = 172 := by rw [efs_73, List.length_set]; exact hfl_71
  have hP := hP.sub (ws' := [(h0, .inr (12, fs_73)), (q1, .inl (cI, 4000, (.inl (fun _ => 0)))), (q3, .inl (cI, 6, (.inl (fun _ => 0)))), (q5, .inl (cI, 49152, (.inl (fun _ => 0)))), (q7, .inl (cZ, 768, (.inl (fun _ => 0))))]) [0, 1, 2, 3, 4] rfl
  have hD := hD.sub (ws' := [(h0, .inr (12, fs_73)), (q1, .inl (cI, 4000, (.inl (fun _ => 0)))), (q3, .inl (cI, 6, (.inl (fun _ => 0)))), (q5, .inl (cI, 49152, (.inl (fun _ => 0)))), (q7, .inl (cZ, 768, (.inl (fun _ => 0))))]) [0, 1, 2, 3, 4] (by decide) rfl
  refine lv_aload_n hx hb dX12_init_306 rfl (lv_at hl 0 rfl) ?_
  refine lv_sipush (v := 1536) hx hb dX12_init_307 (by decide) ?_
  refine nw_arr (atype := .int) (N' := 1536) (a0 := (1536, (.inl (fun _ => 0)))) hx hb (hts (.arrayClass .int) (List.mem_of_getElem? (i := 4) rfl)) rfl hK 0 (cI := cI) rfl hP hD hS hA (fun _ => rfl) (by decide) (by decide) (by decide) (Nat.le_of_ble_eq_true rfl) (Nat.le_of_ble_eq_true rfl) dX12_init_310 (fun q74 H hP hD hS => ?_)
  have hP : va_P (dC, dI) vwCl [(h0, .inr (12, fs_73)), (q1, .inl (cI, 4000, (.inl (fun _ => 0)))), (q3, .inl (cI, 6, (.inl (fun _ => 0)))), (q5, .inl (cI, 49152, (.inl (fun _ => 0)))), (q7, .inl (cZ, 768, (.inl (fun _ => 0)))), (q74, .inl (cI, 1536, (.inl (fun _ => 0))))] H := hP
  have hD : va_D A [(h0, .inr (12, fs_73)), (q1, .inl (cI, 4000, (.inl (fun _ => 0)))), (q3, .inl (cI, 6, (.inl (fun _ => 0)))), (q5, .inl (cI, 49152, (.inl (fun _ => 0)))), (q7, .inl (cZ, 768, (.inl (fun _ => 0)))), (q74, .inl (cI, 1536, (.inl (fun _ => 0))))] := hD
  refine W.widen (k := 37) (n := 395158) (by decide) (by decide) ?_
  refine va_putF (D := (dC, dI)) (ci := 12) (v := .ref q74) (ty := .array (.int)) (C := RX12) (T := TX12) (N := 172) hx hb hts inX12_init_c12 tyX12 tyX12_ok nmX12 hown hK hP hD hS 0 rfl rfl 66 (by decide) (hts (.fieldLink RX12 126 "DiskEvidenceModel" "ownerOf" "[I") (List.mem_of_getElem? (i := 46) rfl)) (fun _ h9 => h9) rfl hin rfl (by decide +kernel) rfl rfl (by rw [hfl_73]; decide) dX12_init_312 (fun H locs hP hD hS => ?_)
  have hP : va_P (dC, dI) vwCl [(h0, .inr (12, (fs_73.set 66 (.ref q74)))), (q1, .inl (cI, 4000, (.inl (fun _ => 0)))), (q3, .inl (cI, 6, (.inl (fun _ => 0)))), (q5, .inl (cI, 49152, (.inl (fun _ => 0)))), (q7, .inl (cZ, 768, (.inl (fun _ => 0)))), (q74, .inl (cI, 1536, (.inl (fun _ => 0))))] H := hP
  have hD : va_D A [(h0, .inr (12, (fs_73.set 66 (.ref q74)))), (q1, .inl (cI, 4000, (.inl (fun _ => 0)))), (q3, .inl (cI, 6, (.inl (fun _ => 0)))), (q5, .inl (cI, 49152, (.inl (fun _ => 0)))), (q7, .inl (cZ, 768, (.inl (fun _ => 0)))), (q74, .inl (cI, 1536, (.inl (fun _ => 0))))] := hD
  obtain ⟨fs_75, efs_75⟩ : ∃ y, y = (fs_73.set 66 (.ref q74)) := ⟨_, rfl⟩
  rw [← efs_75] at hP hD
  have hfl_75 : fs_75.length = 172 := by rw [efs_75, List.length_set]; exact hfl_73
  have hP := hP.sub (ws' := [(h0, .inr (12, fs_75)), (q1, .inl (cI, 4000, (.inl (fun _ => 0)))), (q3, .inl (cI, 6, (.inl (fun _ => 0)))), (q5, .inl (cI, 49152, (.inl (fun _ => 0)))), (q7, .inl (cZ, 768, (.inl (fun _ => 0))))]) [0, 1, 2, 3, 4] rfl
  have hD := hD.sub (ws' := [(h0, .inr (12, fs_75)), (q1, .inl (cI, 4000, (.inl (fun _ => 0)))), (q3, .inl (cI, 6, (.inl (fun _ => 0)))), (q5, .inl (cI, 49152, (.inl (fun _ => 0)))), (q7, .inl (cZ, 768, (.inl (fun _ => 0))))]) [0, 1, 2, 3, 4] (by decide) rfl
  refine lv_aload_n hx hb dX12_init_315 rfl (lv_at hl 0 rfl) ?_
  refine lv_bipush (v := 6) hx hb dX12_init_316 (by decide) ?_
  refine nw_arr (atype := .int) (N' := 6) (a0 := (6, (.inl (fun _ => 0)))) hx hb (hts (.arrayClass .int) (List.mem_of_getElem? (i := 4) rfl)) rfl hK 0 (cI := cI) rfl hP hD hS hA (fun _ => rfl) (by decide) (by decide) (by decide) (Nat.le_of_ble_eq_true rfl) (Nat.le_of_ble_eq_true rfl) dX12_init_318 (fun q76 H hP hD hS => ?_)
  have hP : va_P (dC, dI) vwCl [(h0, .inr (12, fs_75)), (q1, .inl (cI, 4000, (.inl (fun _ => 0)))), (q3, .inl (cI, 6, (.inl (fun _ => 0)))), (q5, .inl (cI, 49152, (.inl (fun _ => 0)))), (q7, .inl (cZ, 768, (.inl (fun _ => 0)))), (q76, .inl (cI, 6, (.inl (fun _ => 0))))] H := hP
  have hD : va_D A [(h0, .inr (12, fs_75)), (q1, .inl (cI, 4000, (.inl (fun _ => 0)))), (q3, .inl (cI, 6, (.inl (fun _ => 0)))), (q5, .inl (cI, 49152, (.inl (fun _ => 0)))), (q7, .inl (cZ, 768, (.inl (fun _ => 0)))), (q76, .inl (cI, 6, (.inl (fun _ => 0))))] := hD
  refine W.widen (k := 38) (n := 395164) (by decide) (by decide) ?_
  refine va_putF (D := (dC, dI)) (ci := 12) (v := .ref q76) (ty := .array (.int)) (C := RX12) (T := TX12) (N := 172) hx hb hts inX12_init_c12 tyX12 tyX12_ok nmX12 hown hK hP hD hS 0 rfl rfl 67 (by decide) (hts (.fieldLink RX12 129 "DiskEvidenceModel" "living" "[I") (List.mem_of_getElem? (i := 47) rfl)) (fun _ h9 => h9) rfl hin rfl (by decide +kernel) rfl rfl (by rw [hfl_75]; decide) dX12_init_320 (fun H locs hP hD hS => ?_)
  have hP : va_P (dC, dI) vwCl [(h0, .inr (12, (fs_75.set 67 (.ref q76)))), (q1, .inl (cI, 4000, (.inl (fun _ => 0)))), (q3, .inl (cI, 6, (.inl (fun _ => 0)))), (q5, .inl (cI, 49152, (.inl (fun _ => 0)))), (q7, .inl (cZ, 768, (.inl (fun _ => 0)))), (q76, .inl (cI, 6, (.inl (fun _ => 0))))] H := hP
  have hD : va_D A [(h0, .inr (12, (fs_75.set 67 (.ref q76)))), (q1, .inl (cI, 4000, (.inl (fun _ => 0)))), (q3, .inl (cI, 6, (.inl (fun _ => 0)))), (q5, .inl (cI, 49152, (.inl (fun _ => 0)))), (q7, .inl (cZ, 768, (.inl (fun _ => 0)))), (q76, .inl (cI, 6, (.inl (fun _ => 0))))] := hD
  obtain ⟨fs_77, efs_77⟩ : ∃ y, y = (fs_75.set 67 (.ref q76)) := ⟨_, rfl⟩
  rw [← efs_77] at hP hD
  have hfl_77 : fs_77.length = 172 := by rw [efs_77, List.length_set]; exact hfl_75
  have hP := hP.sub (ws' := [(h0, .inr (12, fs_77)), (q1, .inl (cI, 4000, (.inl (fun _ => 0)))), (q3, .inl (cI, 6, (.inl (fun _ => 0)))), (q5, .inl (cI, 49152, (.inl (fun _ => 0)))), (q7, .inl (cZ, 768, (.inl (fun _ => 0))))]) [0, 1, 2, 3, 4] rfl
  have hD := hD.sub (ws' := [(h0, .inr (12, fs_77)), (q1, .inl (cI, 4000, (.inl (fun _ => 0)))), (q3, .inl (cI, 6, (.inl (fun _ => 0)))), (q5, .inl (cI, 49152, (.inl (fun _ => 0)))), (q7, .inl (cZ, 768, (.inl (fun _ => 0))))]) [0, 1, 2, 3, 4] (by decide) rfl
  refine lv_aload_n hx hb dX12_init_323 rfl (lv_at hl 0 rfl) ?_
  refine lv_bipush (v := 6) hx hb dX12_init_324 (by decide) ?_
  refine nw_arr (atype := .int) (N' := 6) (a0 := (6, (.inl (fun _ => 0)))) hx hb (hts (.arrayClass .int) (List.mem_of_getElem? (i := 4) rfl)) rfl hK 0 (cI := cI) rfl hP hD hS hA (fun _ => rfl) (by decide) (by decide) (by decide) (Nat.le_of_ble_eq_true rfl) (Nat.le_of_ble_eq_true rfl) dX12_init_326 (fun q78 H hP hD hS => ?_)
  have hP : va_P (dC, dI) vwCl [(h0, .inr (12, fs_77)), (q1, .inl (cI, 4000, (.inl (fun _ => 0)))), (q3, .inl (cI, 6, (.inl (fun _ => 0)))), (q5, .inl (cI, 49152, (.inl (fun _ => 0)))), (q7, .inl (cZ, 768, (.inl (fun _ => 0)))), (q78, .inl (cI, 6, (.inl (fun _ => 0))))] H := hP
  have hD : va_D A [(h0, .inr (12, fs_77)), (q1, .inl (cI, 4000, (.inl (fun _ => 0)))), (q3, .inl (cI, 6, (.inl (fun _ => 0)))), (q5, .inl (cI, 49152, (.inl (fun _ => 0)))), (q7, .inl (cZ, 768, (.inl (fun _ => 0)))), (q78, .inl (cI, 6, (.inl (fun _ => 0))))] := hD
  refine W.widen (k := 39) (n := 395170) (by decide) (by decide) ?_
  refine va_putF (D := (dC, dI)) (ci := 12) (v := .ref q78) (ty := .array (.int)) (C := RX12) (T := TX12) (N := 172) hx hb hts inX12_init_c12 tyX12 tyX12_ok nmX12 hown hK hP hD hS 0 rfl rfl 68 (by decide) (hts (.fieldLink RX12 132 "DiskEvidenceModel" "lost" "[I") (List.mem_of_getElem? (i := 48) rfl)) (fun _ h9 => h9) rfl hin rfl (by decide +kernel) rfl rfl (by rw [hfl_77]; decide) dX12_init_328 (fun H locs hP hD hS => ?_)
  have hP : va_P (dC, dI) vwCl [(h0, .inr (12, (fs_77.set 68 (.ref q78)))), (q1, .inl (cI, 4000, (.inl (fun _ => 0)))), (q3, .inl (cI, 6, (.inl (fun _ => 0)))), (q5, .inl (cI, 49152, (.inl (fun _ => 0)))), (q7, .inl (cZ, 768, (.inl (fun _ => 0)))), (q78, .inl (cI, 6, (.inl (fun _ => 0))))] H := hP
  have hD : va_D A [(h0, .inr (12, (fs_77.set 68 (.ref q78)))), (q1, .inl (cI, 4000, (.inl (fun _ => 0)))), (q3, .inl (cI, 6, (.inl (fun _ => 0)))), (q5, .inl (cI, 49152, (.inl (fun _ => 0)))), (q7, .inl (cZ, 768, (.inl (fun _ => 0)))), (q78, .inl (cI, 6, (.inl (fun _ => 0))))] := hD
  obtain ⟨fs_79, efs_79⟩ : ∃ y, y = (fs_77.set 68 (.ref q78)) := ⟨_, rfl⟩
  rw [← efs_79] at hP hD
  have hfl_79 : fs_79.length = 172 := by rw [efs_79, List.length_set]; exact hfl_77
  have hP := hP.sub (ws' := [(h0, .inr (12, fs_79)), (q1, .inl (cI, 4000, (.inl (fun _ => 0)))), (q3, .inl (cI, 6, (.inl (fun _ => 0)))), (q5, .inl (cI, 49152, (.inl (fun _ => 0)))), (q7, .inl (cZ, 768, (.inl (fun _ => 0))))]) [0, 1, 2, 3, 4] rfl
  have hD := hD.sub (ws' := [(h0, .inr (12, fs_79)), (q1, .inl (cI, 4000, (.inl (fun _ => 0)))), (q3, .inl (cI, 6, (.inl (fun _ => 0)))), (q5, .inl (cI, 49152, (.inl (fun _ => 0)))), (q7, .inl (cZ, 768, (.inl (fun _ => 0))))]) [0, 1, 2, 3, 4] (by decide) rfl
  refine lv_aload_n hx hb dX12_init_331 rfl (lv_at hl 0 rfl) ?_
  refine lv_bipush (v := 6) hx hb dX12_init_332 (by decide) ?_
  refine nw_arr (atype := .int) (N' := 6) (a0 := (6, (.inl (fun _ => 0)))) hx hb (hts (.arrayClass .int) (List.mem_of_getElem? (i := 4) rfl)) rfl hK 0 (cI := cI) rfl hP hD hS hA (fun _ => rfl) (by decide) (by decide) (by decide) (Nat.le_of_ble_eq_true rfl) (Nat.le_of_ble_eq_true rfl) dX12_init_334 (fun q80 H hP hD hS => ?_)
  have hP : va_P (dC, dI) vwCl [(h0, .inr (12, fs_79)), (q1, .inl (cI, 4000, (.inl (fun _ => 0)))), (q3, .inl (cI, 6, (.inl (fun _ => 0)))), (q5, .inl (cI, 49152, (.inl (fun _ => 0)))), (q7, .inl (cZ, 768, (.inl (fun _ => 0)))), (q80, .inl (cI, 6, (.inl (fun _ => 0))))] H := hP
  have hD : va_D A [(h0, .inr (12, fs_79)), (q1, .inl (cI, 4000, (.inl (fun _ => 0)))), (q3, .inl (cI, 6, (.inl (fun _ => 0)))), (q5, .inl (cI, 49152, (.inl (fun _ => 0)))), (q7, .inl (cZ, 768, (.inl (fun _ => 0)))), (q80, .inl (cI, 6, (.inl (fun _ => 0))))] := hD
  refine W.widen (k := 40) (n := 395176) (by decide) (by decide) ?_
  refine va_putF (D := (dC, dI)) (ci := 12) (v := .ref q80) (ty := .array (.int)) (C := RX12) (T := TX12) (N := 172) hx hb hts inX12_init_c12 tyX12 tyX12_ok nmX12 hown hK hP hD hS 0 rfl rfl 69 (by decide) (hts (.fieldLink RX12 135 "DiskEvidenceModel" "cut" "[I") (List.mem_of_getElem? (i := 49) rfl)) (fun _ h9 => h9) rfl hin rfl (by decide +kernel) rfl rfl (by rw [hfl_79]; decide) dX12_init_336 (fun H locs hP hD hS => ?_)
  have hP : va_P (dC, dI) vwCl [(h0, .inr (12, (fs_79.set 69 (.ref q80)))), (q1, .inl (cI, 4000, (.inl (fun _ => 0)))), (q3, .inl (cI, 6, (.inl (fun _ => 0)))), (q5, .inl (cI, 49152, (.inl (fun _ => 0)))), (q7, .inl (cZ, 768, (.inl (fun _ => 0)))), (q80, .inl (cI, 6, (.inl (fun _ => 0))))] H := hP
  have hD : va_D A [(h0, .inr (12, (fs_79.set 69 (.ref q80)))), (q1, .inl (cI, 4000, (.inl (fun _ => 0)))), (q3, .inl (cI, 6, (.inl (fun _ => 0)))), (q5, .inl (cI, 49152, (.inl (fun _ => 0)))), (q7, .inl (cZ, 768, (.inl (fun _ => 0)))), (q80, .inl (cI, 6, (.inl (fun _ => 0))))] := hD
  obtain ⟨fs_81, efs_81⟩ : ∃ y, y = (fs_79.set 69 (.ref q80)) := ⟨_, rfl⟩
  rw [← efs_81] at hP hD
  have hfl_81 : fs_81.length = 172 := by rw [efs_81, List.length_set]; exact hfl_79
  have hP := hP.sub (ws' := [(h0, .inr (12, fs_81)), (q1, .inl (cI, 4000, (.inl (fun _ => 0)))), (q3, .inl (cI, 6, (.inl (fun _ => 0)))), (q5, .inl (cI, 49152, (.inl (fun _ => 0)))), (q7, .inl (cZ, 768, (.inl (fun _ => 0))))]) [0, 1, 2, 3, 4] rfl
  have hD := hD.sub (ws' := [(h0, .inr (12, fs_81)), (q1, .inl (cI, 4000, (.inl (fun _ => 0)))), (q3, .inl (cI, 6, (.inl (fun _ => 0)))), (q5, .inl (cI, 49152, (.inl (fun _ => 0)))), (q7, .inl (cZ, 768, (.inl (fun _ => 0))))]) [0, 1, 2, 3, 4] (by decide) rfl
  refine lv_aload_n hx hb dX12_init_339 rfl (lv_at hl 0 rfl) ?_
  refine lv_bipush (v := 6) hx hb dX12_init_340 (by decide) ?_
  refine nw_arr (atype := .int) (N' := 6) (a0 := (6, (.inl (fun _ => 0)))) hx hb (hts (.arrayClass .int) (List.mem_of_getElem? (i := 4) rfl)) rfl hK 0 (cI := cI) rfl hP hD hS hA (fun _ => rfl) (by decide) (by decide) (by decide) (Nat.le_of_ble_eq_true rfl) (Nat.le_of_ble_eq_true rfl) dX12_init_342 (fun q82 H hP hD hS => ?_)
  have hP : va_P (dC, dI) vwCl [(h0, .inr (12, fs_81)), (q1, .inl (cI, 4000, (.inl (fun _ => 0)))), (q3, .inl (cI, 6, (.inl (fun _ => 0)))), (q5, .inl (cI, 49152, (.inl (fun _ => 0)))), (q7, .inl (cZ, 768, (.inl (fun _ => 0)))), (q82, .inl (cI, 6, (.inl (fun _ => 0))))] H := hP
  have hD : va_D A [(h0, .inr (12, fs_81)), (q1, .inl (cI, 4000, (.inl (fun _ => 0)))), (q3, .inl (cI, 6, (.inl (fun _ => 0)))), (q5, .inl (cI, 49152, (.inl (fun _ => 0)))), (q7, .inl (cZ, 768, (.inl (fun _ => 0)))), (q82, .inl (cI, 6, (.inl (fun _ => 0))))] := hD
  refine W.widen (k := 41) (n := 395182) (by decide) (by decide) ?_
  refine va_putF (D := (dC, dI)) (ci := 12) (v := .ref q82) (ty := .array (.int)) (C := RX12) (T := TX12) (N := 172) hx hb hts inX12_init_c12 tyX12 tyX12_ok nmX12 hown hK hP hD hS 0 rfl rfl 70 (by decide) (hts (.fieldLink RX12 138 "DiskEvidenceModel" "inside" "[I") (List.mem_of_getElem? (i := 50) rfl)) (fun _ h9 => h9) rfl hin rfl (by decide +kernel) rfl rfl (by rw [hfl_81]; decide) dX12_init_344 (fun H locs hP hD hS => ?_)
  have hP : va_P (dC, dI) vwCl [(h0, .inr (12, (fs_81.set 70 (.ref q82)))), (q1, .inl (cI, 4000, (.inl (fun _ => 0)))), (q3, .inl (cI, 6, (.inl (fun _ => 0)))), (q5, .inl (cI, 49152, (.inl (fun _ => 0)))), (q7, .inl (cZ, 768, (.inl (fun _ => 0)))), (q82, .inl (cI, 6, (.inl (fun _ => 0))))] H := hP
  have hD : va_D A [(h0, .inr (12, (fs_81.set 70 (.ref q82)))), (q1, .inl (cI, 4000, (.inl (fun _ => 0)))), (q3, .inl (cI, 6, (.inl (fun _ => 0)))), (q5, .inl (cI, 49152, (.inl (fun _ => 0)))), (q7, .inl (cZ, 768, (.inl (fun _ => 0)))), (q82, .inl (cI, 6, (.inl (fun _ => 0))))] := hD
  obtain ⟨fs_83, efs_83⟩ : ∃ y, y = (fs_81.set 70 (.ref q82)) := ⟨_, rfl⟩
  rw [← efs_83] at hP hD
  have hfl_83 : fs_83.length = 172 := by rw [efs_83, List.length_set]; exact hfl_81
  have hP := hP.sub (ws' := [(h0, .inr (12, fs_83)), (q1, .inl (cI, 4000, (.inl (fun _ => 0)))), (q3, .inl (cI, 6, (.inl (fun _ => 0)))), (q5, .inl (cI, 49152, (.inl (fun _ => 0)))), (q7, .inl (cZ, 768, (.inl (fun _ => 0))))]) [0, 1, 2, 3, 4] rfl
  have hD := hD.sub (ws' := [(h0, .inr (12, fs_83)), (q1, .inl (cI, 4000, (.inl (fun _ => 0)))), (q3, .inl (cI, 6, (.inl (fun _ => 0)))), (q5, .inl (cI, 49152, (.inl (fun _ => 0)))), (q7, .inl (cZ, 768, (.inl (fun _ => 0))))]) [0, 1, 2, 3, 4] (by decide) rfl
  refine lv_aload_n hx hb dX12_init_347 rfl (lv_at hl 0 rfl) ?_
  refine lv_bipush (v := 6) hx hb dX12_init_348 (by decide) ?_
  refine nw_arr (atype := .int) (N' := 6) (a0 := (6, (.inl (fun _ => 0)))) hx hb (hts (.arrayClass .int) (List.mem_of_getElem? (i := 4) rfl)) rfl hK 0 (cI := cI) rfl hP hD hS hA (fun _ => rfl) (by decide) (by decide) (by decide) (Nat.le_of_ble_eq_true rfl) (Nat.le_of_ble_eq_true rfl) dX12_init_350 (fun q84 H hP hD hS => ?_)
  have hP : va_P (dC, dI) vwCl [(h0, .inr (12, fs_83)), (q1, .inl (cI, 4000, (.inl (fun _ => 0)))), (q3, .inl (cI, 6, (.inl (fun _ => 0)))), (q5, .inl (cI, 49152, (.inl (fun _ => 0)))), (q7, .inl (cZ, 768, (.inl (fun _ => 0)))), (q84, .inl (cI, 6, (.inl (fun _ => 0))))] H := hP
  have hD : va_D A [(h0, .inr (12, fs_83)), (q1, .inl (cI, 4000, (.inl (fun _ => 0)))), (q3, .inl (cI, 6, (.inl (fun _ => 0)))), (q5, .inl (cI, 49152, (.inl (fun _ => 0)))), (q7, .inl (cZ, 768, (.inl (fun _ => 0)))), (q84, .inl (cI, 6, (.inl (fun _ => 0))))] := hD
  refine W.widen (k := 42) (n := 395188) (by decide) (by decide) ?_
  refine va_putF (D := (dC, dI)) (ci := 12) (v := .ref q84) (ty := .array (.int)) (C := RX12) (T := TX12) (N := 172) hx hb hts inX12_init_c12 tyX12 tyX12_ok nmX12 hown hK hP hD hS 0 rfl rfl 71 (by decide) (hts (.fieldLink RX12 141 "DiskEvidenceModel" "faults" "[I") (List.mem_of_getElem? (i := 51) rfl)) (fun _ h9 => h9) rfl hin rfl (by decide +kernel) rfl rfl (by rw [hfl_83]; decide) dX12_init_352 (fun H locs hP hD hS => ?_)
  have hP : va_P (dC, dI) vwCl [(h0, .inr (12, (fs_83.set 71 (.ref q84)))), (q1, .inl (cI, 4000, (.inl (fun _ => 0)))), (q3, .inl (cI, 6, (.inl (fun _ => 0)))), (q5, .inl (cI, 49152, (.inl (fun _ => 0)))), (q7, .inl (cZ, 768, (.inl (fun _ => 0)))), (q84, .inl (cI, 6, (.inl (fun _ => 0))))] H := hP
  have hD : va_D A [(h0, .inr (12, (fs_83.set 71 (.ref q84)))), (q1, .inl (cI, 4000, (.inl (fun _ => 0)))), (q3, .inl (cI, 6, (.inl (fun _ => 0)))), (q5, .inl (cI, 49152, (.inl (fun _ => 0)))), (q7, .inl (cZ, 768, (.inl (fun _ => 0)))), (q84, .inl (cI, 6, (.inl (fun _ => 0))))] := hD
  obtain ⟨fs_85, efs_85⟩ : ∃ y, y = (fs_83.set 71 (.ref q84)) := ⟨_, rfl⟩
  rw [← efs_85] at hP hD
  have hfl_85 : fs_85.length = 172 := by rw [efs_85, List.length_set]; exact hfl_83
  have hP := hP.sub (ws' := [(h0, .inr (12, fs_85)), (q1, .inl (cI, 4000, (.inl (fun _ => 0)))), (q3, .inl (cI, 6, (.inl (fun _ => 0)))), (q5, .inl (cI, 49152, (.inl (fun _ => 0)))), (q7, .inl (cZ, 768, (.inl (fun _ => 0))))]) [0, 1, 2, 3, 4] rfl
  have hD := hD.sub (ws' := [(h0, .inr (12, fs_85)), (q1, .inl (cI, 4000, (.inl (fun _ => 0)))), (q3, .inl (cI, 6, (.inl (fun _ => 0)))), (q5, .inl (cI, 49152, (.inl (fun _ => 0)))), (q7, .inl (cZ, 768, (.inl (fun _ => 0))))]) [0, 1, 2, 3, 4] (by decide) rfl
  refine lv_aload_n hx hb dX12_init_355 rfl (lv_at hl 0 rfl) ?_
  refine lv_sipush (v := 600) hx hb dX12_init_356 (by decide) ?_
  refine nw_arr (atype := .int) (N' := 600) (a0 := (600, (.inl (fun _ => 0)))) hx hb (hts (.arrayClass .int) (List.mem_of_getElem? (i := 4) rfl)) rfl hK 0 (cI := cI) rfl hP hD hS hA (fun _ => rfl) (by decide) (by decide) (by decide) (Nat.le_of_ble_eq_true rfl) (Nat.le_of_ble_eq_true rfl) dX12_init_359 (fun q86 H hP hD hS => ?_)
  have hP : va_P (dC, dI) vwCl [(h0, .inr (12, fs_85)), (q1, .inl (cI, 4000, (.inl (fun _ => 0)))), (q3, .inl (cI, 6, (.inl (fun _ => 0)))), (q5, .inl (cI, 49152, (.inl (fun _ => 0)))), (q7, .inl (cZ, 768, (.inl (fun _ => 0)))), (q86, .inl (cI, 600, (.inl (fun _ => 0))))] H := hP
  have hD : va_D A [(h0, .inr (12, fs_85)), (q1, .inl (cI, 4000, (.inl (fun _ => 0)))), (q3, .inl (cI, 6, (.inl (fun _ => 0)))), (q5, .inl (cI, 49152, (.inl (fun _ => 0)))), (q7, .inl (cZ, 768, (.inl (fun _ => 0)))), (q86, .inl (cI, 600, (.inl (fun _ => 0))))] := hD
  refine W.widen (k := 43) (n := 395788) (by decide) (by decide) ?_
  refine va_putF (D := (dC, dI)) (ci := 12) (v := .ref q86) (ty := .array (.int)) (C := RX12) (T := TX12) (N := 172) hx hb hts inX12_init_c12 tyX12 tyX12_ok nmX12 hown hK hP hD hS 0 rfl rfl 72 (by decide) (hts (.fieldLink RX12 144 "DiskEvidenceModel" "faultNumber" "[I") (List.mem_of_getElem? (i := 52) rfl)) (fun _ h9 => h9) rfl hin rfl (by decide +kernel) rfl rfl (by rw [hfl_85]; decide) dX12_init_361 (fun H locs hP hD hS => ?_)
  have hP : va_P (dC, dI) vwCl [(h0, .inr (12, (fs_85.set 72 (.ref q86)))), (q1, .inl (cI, 4000, (.inl (fun _ => 0)))), (q3, .inl (cI, 6, (.inl (fun _ => 0)))), (q5, .inl (cI, 49152, (.inl (fun _ => 0)))), (q7, .inl (cZ, 768, (.inl (fun _ => 0)))), (q86, .inl (cI, 600, (.inl (fun _ => 0))))] H := hP
  have hD : va_D A [(h0, .inr (12, (fs_85.set 72 (.ref q86)))), (q1, .inl (cI, 4000, (.inl (fun _ => 0)))), (q3, .inl (cI, 6, (.inl (fun _ => 0)))), (q5, .inl (cI, 49152, (.inl (fun _ => 0)))), (q7, .inl (cZ, 768, (.inl (fun _ => 0)))), (q86, .inl (cI, 600, (.inl (fun _ => 0))))] := hD
  obtain ⟨fs_87, efs_87⟩ : ∃ y, y = (fs_85.set 72 (.ref q86)) := ⟨_, rfl⟩
  rw [← efs_87] at hP hD
  have hfl_87 : fs_87.length = 172 := by rw [efs_87, List.length_set]; exact hfl_85
  have hP := hP.sub (ws' := [(h0, .inr (12, fs_87)), (q1, .inl (cI, 4000, (.inl (fun _ => 0)))), (q3, .inl (cI, 6, (.inl (fun _ => 0)))), (q5, .inl (cI, 49152, (.inl (fun _ => 0)))), (q7, .inl (cZ, 768, (.inl (fun _ => 0))))]) [0, 1, 2, 3, 4] rfl
  have hD := hD.sub (ws' := [(h0, .inr (12, fs_87)), (q1, .inl (cI, 4000, (.inl (fun _ => 0)))), (q3, .inl (cI, 6, (.inl (fun _ => 0)))), (q5, .inl (cI, 49152, (.inl (fun _ => 0)))), (q7, .inl (cZ, 768, (.inl (fun _ => 0))))]) [0, 1, 2, 3, 4] (by decide) rfl
  refine lv_aload_n hx hb dX12_init_364 rfl (lv_at hl 0 rfl) ?_
  refine lv_sipush (v := 600) hx hb dX12_init_365 (by decide) ?_
  refine nw_arr (atype := .int) (N' := 600) (a0 := (600, (.inl (fun _ => 0)))) hx hb (hts (.arrayClass .int) (List.mem_of_getElem? (i := 4) rfl)) rfl hK 0 (cI := cI) rfl hP hD hS hA (fun _ => rfl) (by decide) (by decide) (by decide) (Nat.le_of_ble_eq_true rfl) (Nat.le_of_ble_eq_true rfl) dX12_init_368 (fun q88 H hP hD hS => ?_)
  have hP : va_P (dC, dI) vwCl [(h0, .inr (12, fs_87)), (q1, .inl (cI, 4000, (.inl (fun _ => 0)))), (q3, .inl (cI, 6, (.inl (fun _ => 0)))), (q5, .inl (cI, 49152, (.inl (fun _ => 0)))), (q7, .inl (cZ, 768, (.inl (fun _ => 0)))), (q88, .inl (cI, 600, (.inl (fun _ => 0))))] H := hP
  have hD : va_D A [(h0, .inr (12, fs_87)), (q1, .inl (cI, 4000, (.inl (fun _ => 0)))), (q3, .inl (cI, 6, (.inl (fun _ => 0)))), (q5, .inl (cI, 49152, (.inl (fun _ => 0)))), (q7, .inl (cZ, 768, (.inl (fun _ => 0)))), (q88, .inl (cI, 600, (.inl (fun _ => 0))))] := hD
  refine W.widen (k := 44) (n := 396388) (by decide) (by decide) ?_
  refine va_putF (D := (dC, dI)) (ci := 12) (v := .ref q88) (ty := .array (.int)) (C := RX12) (T := TX12) (N := 172) hx hb hts inX12_init_c12 tyX12 tyX12_ok nmX12 hown hK hP hD hS 0 rfl rfl 73 (by decide) (hts (.fieldLink RX12 147 "DiskEvidenceModel" "faultFile" "[I") (List.mem_of_getElem? (i := 53) rfl)) (fun _ h9 => h9) rfl hin rfl (by decide +kernel) rfl rfl (by rw [hfl_87]; decide) dX12_init_370 (fun H locs hP hD hS => ?_)
  have hP : va_P (dC, dI) vwCl [(h0, .inr (12, (fs_87.set 73 (.ref q88)))), (q1, .inl (cI, 4000, (.inl (fun _ => 0)))), (q3, .inl (cI, 6, (.inl (fun _ => 0)))), (q5, .inl (cI, 49152, (.inl (fun _ => 0)))), (q7, .inl (cZ, 768, (.inl (fun _ => 0)))), (q88, .inl (cI, 600, (.inl (fun _ => 0))))] H := hP
  have hD : va_D A [(h0, .inr (12, (fs_87.set 73 (.ref q88)))), (q1, .inl (cI, 4000, (.inl (fun _ => 0)))), (q3, .inl (cI, 6, (.inl (fun _ => 0)))), (q5, .inl (cI, 49152, (.inl (fun _ => 0)))), (q7, .inl (cZ, 768, (.inl (fun _ => 0)))), (q88, .inl (cI, 600, (.inl (fun _ => 0))))] := hD
  obtain ⟨fs_89, efs_89⟩ : ∃ y, y = (fs_87.set 73 (.ref q88)) := ⟨_, rfl⟩
  rw [← efs_89] at hP hD
  have hfl_89 : fs_89.length = 172 := by rw [efs_89, List.length_set]; exact hfl_87
  have hP := hP.sub (ws' := [(h0, .inr (12, fs_89)), (q1, .inl (cI, 4000, (.inl (fun _ => 0)))), (q3, .inl (cI, 6, (.inl (fun _ => 0)))), (q5, .inl (cI, 49152, (.inl (fun _ => 0)))), (q7, .inl (cZ, 768, (.inl (fun _ => 0))))]) [0, 1, 2, 3, 4] rfl
  have hD := hD.sub (ws' := [(h0, .inr (12, fs_89)), (q1, .inl (cI, 4000, (.inl (fun _ => 0)))), (q3, .inl (cI, 6, (.inl (fun _ => 0)))), (q5, .inl (cI, 49152, (.inl (fun _ => 0)))), (q7, .inl (cZ, 768, (.inl (fun _ => 0))))]) [0, 1, 2, 3, 4] (by decide) rfl
  refine lv_aload_n hx hb dX12_init_373 rfl (lv_at hl 0 rfl) ?_
  refine lv_sipush (v := 600) hx hb dX12_init_374 (by decide) ?_
  refine nw_arr (atype := .int) (N' := 600) (a0 := (600, (.inl (fun _ => 0)))) hx hb (hts (.arrayClass .int) (List.mem_of_getElem? (i := 4) rfl)) rfl hK 0 (cI := cI) rfl hP hD hS hA (fun _ => rfl) (by decide) (by decide) (by decide) (Nat.le_of_ble_eq_true rfl) (Nat.le_of_ble_eq_true rfl) dX12_init_377 (fun q90 H hP hD hS => ?_)
  have hP : va_P (dC, dI) vwCl [(h0, .inr (12, fs_89)), (q1, .inl (cI, 4000, (.inl (fun _ => 0)))), (q3, .inl (cI, 6, (.inl (fun _ => 0)))), (q5, .inl (cI, 49152, (.inl (fun _ => 0)))), (q7, .inl (cZ, 768, (.inl (fun _ => 0)))), (q90, .inl (cI, 600, (.inl (fun _ => 0))))] H := hP
  have hD : va_D A [(h0, .inr (12, fs_89)), (q1, .inl (cI, 4000, (.inl (fun _ => 0)))), (q3, .inl (cI, 6, (.inl (fun _ => 0)))), (q5, .inl (cI, 49152, (.inl (fun _ => 0)))), (q7, .inl (cZ, 768, (.inl (fun _ => 0)))), (q90, .inl (cI, 600, (.inl (fun _ => 0))))] := hD
  refine W.widen (k := 45) (n := 396988) (by decide) (by decide) ?_
  refine va_putF (D := (dC, dI)) (ci := 12) (v := .ref q90) (ty := .array (.int)) (C := RX12) (T := TX12) (N := 172) hx hb hts inX12_init_c12 tyX12 tyX12_ok nmX12 hown hK hP hD hS 0 rfl rfl 74 (by decide) (hts (.fieldLink RX12 150 "DiskEvidenceModel" "faultBlock" "[I") (List.mem_of_getElem? (i := 54) rfl)) (fun _ h9 => h9) rfl hin rfl (by decide +kernel) rfl rfl (by rw [hfl_89]; decide) dX12_init_379 (fun H locs hP hD hS => ?_)
  have hP : va_P (dC, dI) vwCl [(h0, .inr (12, (fs_89.set 74 (.ref q90)))), (q1, .inl (cI, 4000, (.inl (fun _ => 0)))), (q3, .inl (cI, 6, (.inl (fun _ => 0)))), (q5, .inl (cI, 49152, (.inl (fun _ => 0)))), (q7, .inl (cZ, 768, (.inl (fun _ => 0)))), (q90, .inl (cI, 600, (.inl (fun _ => 0))))] H := hP
  have hD : va_D A [(h0, .inr (12, (fs_89.set 74 (.ref q90)))), (q1, .inl (cI, 4000, (.inl (fun _ => 0)))), (q3, .inl (cI, 6, (.inl (fun _ => 0)))), (q5, .inl (cI, 49152, (.inl (fun _ => 0)))), (q7, .inl (cZ, 768, (.inl (fun _ => 0)))), (q90, .inl (cI, 600, (.inl (fun _ => 0))))] := hD
  obtain ⟨fs_91, efs_91⟩ : ∃ y, y = (fs_89.set 74 (.ref q90)) := ⟨_, rfl⟩
  rw [← efs_91] at hP hD
  have hfl_91 : fs_91.length = 172 := by rw [efs_91, List.length_set]; exact hfl_89
  have hP := hP.sub (ws' := [(h0, .inr (12, fs_91)), (q1, .inl (cI, 4000, (.inl (fun _ => 0)))), (q3, .inl (cI, 6, (.inl (fun _ => 0)))), (q5, .inl (cI, 49152, (.inl (fun _ => 0)))), (q7, .inl (cZ, 768, (.inl (fun _ => 0))))]) [0, 1, 2, 3, 4] rfl
  have hD := hD.sub (ws' := [(h0, .inr (12, fs_91)), (q1, .inl (cI, 4000, (.inl (fun _ => 0)))), (q3, .inl (cI, 6, (.inl (fun _ => 0)))), (q5, .inl (cI, 49152, (.inl (fun _ => 0)))), (q7, .inl (cZ, 768, (.inl (fun _ => 0))))]) [0, 1, 2, 3, 4] (by decide) rfl
  refine lv_aload_n hx hb dX12_init_382 rfl (lv_at hl 0 rfl) ?_
  refine lv_sipush (v := 900) hx hb dX12_init_383 (by decide) ?_
  refine nw_arr (atype := .int) (N' := 900) (a0 := (900, (.inl (fun _ => 0)))) hx hb (hts (.arrayClass .int) (List.mem_of_getElem? (i := 4) rfl)) rfl hK 0 (cI := cI) rfl hP hD hS hA (fun _ => rfl) (by decide) (by decide) (by decide) (Nat.le_of_ble_eq_true rfl) (Nat.le_of_ble_eq_true rfl) dX12_init_386 (fun q92 H hP hD hS => ?_)
  have hP : va_P (dC, dI) vwCl [(h0, .inr (12, fs_91)), (q1, .inl (cI, 4000, (.inl (fun _ => 0)))), (q3, .inl (cI, 6, (.inl (fun _ => 0)))), (q5, .inl (cI, 49152, (.inl (fun _ => 0)))), (q7, .inl (cZ, 768, (.inl (fun _ => 0)))), (q92, .inl (cI, 900, (.inl (fun _ => 0))))] H := hP
  have hD : va_D A [(h0, .inr (12, fs_91)), (q1, .inl (cI, 4000, (.inl (fun _ => 0)))), (q3, .inl (cI, 6, (.inl (fun _ => 0)))), (q5, .inl (cI, 49152, (.inl (fun _ => 0)))), (q7, .inl (cZ, 768, (.inl (fun _ => 0)))), (q92, .inl (cI, 900, (.inl (fun _ => 0))))] := hD
  refine W.widen (k := 46) (n := 397888) (by decide) (by decide) ?_
  refine va_putF (D := (dC, dI)) (ci := 12) (v := .ref q92) (ty := .array (.int)) (C := RX12) (T := TX12) (N := 172) hx hb hts inX12_init_c12 tyX12 tyX12_ok nmX12 hown hK hP hD hS 0 rfl rfl 75 (by decide) (hts (.fieldLink RX12 153 "DiskEvidenceModel" "kindOf" "[I") (List.mem_of_getElem? (i := 55) rfl)) (fun _ h9 => h9) rfl hin rfl (by decide +kernel) rfl rfl (by rw [hfl_91]; decide) dX12_init_388 (fun H locs hP hD hS => ?_)
  have hP : va_P (dC, dI) vwCl [(h0, .inr (12, (fs_91.set 75 (.ref q92)))), (q1, .inl (cI, 4000, (.inl (fun _ => 0)))), (q3, .inl (cI, 6, (.inl (fun _ => 0)))), (q5, .inl (cI, 49152, (.inl (fun _ => 0)))), (q7, .inl (cZ, 768, (.inl (fun _ => 0)))), (q92, .inl (cI, 900, (.inl (fun _ => 0))))] H := hP
  have hD : va_D A [(h0, .inr (12, (fs_91.set 75 (.ref q92)))), (q1, .inl (cI, 4000, (.inl (fun _ => 0)))), (q3, .inl (cI, 6, (.inl (fun _ => 0)))), (q5, .inl (cI, 49152, (.inl (fun _ => 0)))), (q7, .inl (cZ, 768, (.inl (fun _ => 0)))), (q92, .inl (cI, 900, (.inl (fun _ => 0))))] := hD
  obtain ⟨fs_93, efs_93⟩ : ∃ y, y = (fs_91.set 75 (.ref q92)) := ⟨_, rfl⟩
  rw [← efs_93] at hP hD
  have hfl_93 : fs_93.length = 172 := by rw [efs_93, List.length_set]; exact hfl_91
  have hP := hP.sub (ws' := [(h0, .inr (12, fs_93)), (q1, .inl (cI, 4000, (.inl (fun _ => 0)))), (q3, .inl (cI, 6, (.inl (fun _ => 0)))), (q5, .inl (cI, 49152, (.inl (fun _ => 0)))), (q7, .inl (cZ, 768, (.inl (fun _ => 0))))]) [0, 1, 2, 3, 4] rfl
  have hD := hD.sub (ws' := [(h0, .inr (12, fs_93)), (q1, .inl (cI, 4000, (.inl (fun _ => 0)))), (q3, .inl (cI, 6, (.inl (fun _ => 0)))), (q5, .inl (cI, 49152, (.inl (fun _ => 0)))), (q7, .inl (cZ, 768, (.inl (fun _ => 0))))]) [0, 1, 2, 3, 4] (by decide) rfl
  refine lv_aload_n hx hb dX12_init_391 rfl (lv_at hl 0 rfl) ?_
  refine lv_sipush (v := 900) hx hb dX12_init_392 (by decide) ?_
  refine nw_arr (atype := .int) (N' := 900) (a0 := (900, (.inl (fun _ => 0)))) hx hb (hts (.arrayClass .int) (List.mem_of_getElem? (i := 4) rfl)) rfl hK 0 (cI := cI) rfl hP hD hS hA (fun _ => rfl) (by decide) (by decide) (by decide) (Nat.le_of_ble_eq_true rfl) (Nat.le_of_ble_eq_true rfl) dX12_init_395 (fun q94 H hP hD hS => ?_)
  have hP : va_P (dC, dI) vwCl [(h0, .inr (12, fs_93)), (q1, .inl (cI, 4000, (.inl (fun _ => 0)))), (q3, .inl (cI, 6, (.inl (fun _ => 0)))), (q5, .inl (cI, 49152, (.inl (fun _ => 0)))), (q7, .inl (cZ, 768, (.inl (fun _ => 0)))), (q94, .inl (cI, 900, (.inl (fun _ => 0))))] H := hP
  have hD : va_D A [(h0, .inr (12, fs_93)), (q1, .inl (cI, 4000, (.inl (fun _ => 0)))), (q3, .inl (cI, 6, (.inl (fun _ => 0)))), (q5, .inl (cI, 49152, (.inl (fun _ => 0)))), (q7, .inl (cZ, 768, (.inl (fun _ => 0)))), (q94, .inl (cI, 900, (.inl (fun _ => 0))))] := hD
  refine W.widen (k := 47) (n := 398788) (by decide) (by decide) ?_
  refine va_putF (D := (dC, dI)) (ci := 12) (v := .ref q94) (ty := .array (.int)) (C := RX12) (T := TX12) (N := 172) hx hb hts inX12_init_c12 tyX12 tyX12_ok nmX12 hown hK hP hD hS 0 rfl rfl 76 (by decide) (hts (.fieldLink RX12 156 "DiskEvidenceModel" "endOf" "[I") (List.mem_of_getElem? (i := 56) rfl)) (fun _ h9 => h9) rfl hin rfl (by decide +kernel) rfl rfl (by rw [hfl_93]; decide) dX12_init_397 (fun H locs hP hD hS => ?_)
  have hP : va_P (dC, dI) vwCl [(h0, .inr (12, (fs_93.set 76 (.ref q94)))), (q1, .inl (cI, 4000, (.inl (fun _ => 0)))), (q3, .inl (cI, 6, (.inl (fun _ => 0)))), (q5, .inl (cI, 49152, (.inl (fun _ => 0)))), (q7, .inl (cZ, 768, (.inl (fun _ => 0)))), (q94, .inl (cI, 900, (.inl (fun _ => 0))))] H := hP
  have hD : va_D A [(h0, .inr (12, (fs_93.set 76 (.ref q94)))), (q1, .inl (cI, 4000, (.inl (fun _ => 0)))), (q3, .inl (cI, 6, (.inl (fun _ => 0)))), (q5, .inl (cI, 49152, (.inl (fun _ => 0)))), (q7, .inl (cZ, 768, (.inl (fun _ => 0)))), (q94, .inl (cI, 900, (.inl (fun _ => 0))))] := hD
  obtain ⟨fs_95, efs_95⟩ : ∃ y, y = (fs_93.set 76 (.ref q94)) := ⟨_, rfl⟩
  rw [← efs_95] at hP hD
  have hfl_95 : fs_95.length = 172 := by rw [efs_95, List.length_set]; exact hfl_93
  have hP := hP.sub (ws' := [(h0, .inr (12, fs_95)), (q1, .inl (cI, 4000, (.inl (fun _ => 0)))), (q3, .inl (cI, 6, (.inl (fun _ => 0)))), (q5, .inl (cI, 49152, (.inl (fun _ => 0)))), (q7, .inl (cZ, 768, (.inl (fun _ => 0))))]) [0, 1, 2, 3, 4] rfl
  have hD := hD.sub (ws' := [(h0, .inr (12, fs_95)), (q1, .inl (cI, 4000, (.inl (fun _ => 0)))), (q3, .inl (cI, 6, (.inl (fun _ => 0)))), (q5, .inl (cI, 49152, (.inl (fun _ => 0)))), (q7, .inl (cZ, 768, (.inl (fun _ => 0))))]) [0, 1, 2, 3, 4] (by decide) rfl
  refine lv_aload_n hx hb dX12_init_400 rfl (lv_at hl 0 rfl) ?_
  refine lv_sipush (v := 900) hx hb dX12_init_401 (by decide) ?_
  refine nw_arr (atype := .long) (N' := 900) (a0 := (900, (.inr (.inl (fun _ => 0))))) hx hb (hts (.arrayClass .long) (List.mem_of_getElem? (i := 57) rfl)) rfl hK 3 (cI := cJ) rfl hP hD hS hA (fun _ => rfl) (by decide) (by decide) (by decide) (Nat.le_of_ble_eq_true rfl) (Nat.le_of_ble_eq_true rfl) dX12_init_404 (fun q96 H hP hD hS => ?_)
  have hP : va_P (dC, dI) vwCl [(h0, .inr (12, fs_95)), (q1, .inl (cI, 4000, (.inl (fun _ => 0)))), (q3, .inl (cI, 6, (.inl (fun _ => 0)))), (q5, .inl (cI, 49152, (.inl (fun _ => 0)))), (q7, .inl (cZ, 768, (.inl (fun _ => 0)))), (q96, .inl (cJ, 900, (.inr (.inl (fun _ => 0)))))] H := hP
  have hD : va_D A [(h0, .inr (12, fs_95)), (q1, .inl (cI, 4000, (.inl (fun _ => 0)))), (q3, .inl (cI, 6, (.inl (fun _ => 0)))), (q5, .inl (cI, 49152, (.inl (fun _ => 0)))), (q7, .inl (cZ, 768, (.inl (fun _ => 0)))), (q96, .inl (cJ, 900, (.inr (.inl (fun _ => 0)))))] := hD
  refine W.widen (k := 48) (n := 399688) (by decide) (by decide) ?_
  refine va_putF (D := (dC, dI)) (ci := 12) (v := .ref q96) (ty := .array (.long)) (C := RX12) (T := TX12) (N := 172) hx hb hts inX12_init_c12 tyX12 tyX12_ok nmX12 hown hK hP hD hS 0 rfl rfl 77 (by decide) (hts (.fieldLink RX12 159 "DiskEvidenceModel" "sizeOf" "[J") (List.mem_of_getElem? (i := 58) rfl)) (fun _ h9 => h9) rfl hin rfl (by decide +kernel) rfl rfl (by rw [hfl_95]; decide) dX12_init_406 (fun H locs hP hD hS => ?_)
  have hP : va_P (dC, dI) vwCl [(h0, .inr (12, (fs_95.set 77 (.ref q96)))), (q1, .inl (cI, 4000, (.inl (fun _ => 0)))), (q3, .inl (cI, 6, (.inl (fun _ => 0)))), (q5, .inl (cI, 49152, (.inl (fun _ => 0)))), (q7, .inl (cZ, 768, (.inl (fun _ => 0)))), (q96, .inl (cJ, 900, (.inr (.inl (fun _ => 0)))))] H := hP
  have hD : va_D A [(h0, .inr (12, (fs_95.set 77 (.ref q96)))), (q1, .inl (cI, 4000, (.inl (fun _ => 0)))), (q3, .inl (cI, 6, (.inl (fun _ => 0)))), (q5, .inl (cI, 49152, (.inl (fun _ => 0)))), (q7, .inl (cZ, 768, (.inl (fun _ => 0)))), (q96, .inl (cJ, 900, (.inr (.inl (fun _ => 0)))))] := hD
  obtain ⟨fs_97, efs_97⟩ : ∃ y, y = (fs_95.set 77 (.ref q96)) := ⟨_, rfl⟩
  rw [← efs_97] at hP hD
  have hfl_97 : fs_97.length = 172 := by rw [efs_97, List.length_set]; exact hfl_95
  have hP := hP.sub (ws' := [(h0, .inr (12, fs_97)), (q1, .inl (cI, 4000, (.inl (fun _ => 0)))), (q3, .inl (cI, 6, (.inl (fun _ => 0)))), (q5, .inl (cI, 49152, (.inl (fun _ => 0)))), (q7, .inl (cZ, 768, (.inl (fun _ => 0))))]) [0, 1, 2, 3, 4] rfl
  have hD := hD.sub (ws' := [(h0, .inr (12, fs_97)), (q1, .inl (cI, 4000, (.inl (fun _ => 0)))), (q3, .inl (cI, 6, (.inl (fun _ => 0)))), (q5, .inl (cI, 49152, (.inl (fun _ => 0)))), (q7, .inl (cZ, 768, (.inl (fun _ => 0))))]) [0, 1, 2, 3, 4] (by decide) rfl
  refine lv_aload_n hx hb dX12_init_409 rfl (lv_at hl 0 rfl) ?_
  refine lv_sipush (v := 900) hx hb dX12_init_410 (by decide) ?_
  refine nw_arr (atype := .long) (N' := 900) (a0 := (900, (.inr (.inl (fun _ => 0))))) hx hb (hts (.arrayClass .long) (List.mem_of_getElem? (i := 57) rfl)) rfl hK 3 (cI := cJ) rfl hP hD hS hA (fun _ => rfl) (by decide) (by decide) (by decide) (Nat.le_of_ble_eq_true rfl) (Nat.le_of_ble_eq_true rfl) dX12_init_413 (fun q98 H hP hD hS => ?_)
  have hP : va_P (dC, dI) vwCl [(h0, .inr (12, fs_97)), (q1, .inl (cI, 4000, (.inl (fun _ => 0)))), (q3, .inl (cI, 6, (.inl (fun _ => 0)))), (q5, .inl (cI, 49152, (.inl (fun _ => 0)))), (q7, .inl (cZ, 768, (.inl (fun _ => 0)))), (q98, .inl (cJ, 900, (.inr (.inl (fun _ => 0)))))] H := hP
  have hD : va_D A [(h0, .inr (12, fs_97)), (q1, .inl (cI, 4000, (.inl (fun _ => 0)))), (q3, .inl (cI, 6, (.inl (fun _ => 0)))), (q5, .inl (cI, 49152, (.inl (fun _ => 0)))), (q7, .inl (cZ, 768, (.inl (fun _ => 0)))), (q98, .inl (cJ, 900, (.inr (.inl (fun _ => 0)))))] := hD
  refine W.widen (k := 49) (n := 400588) (by decide) (by decide) ?_
  refine va_putF (D := (dC, dI)) (ci := 12) (v := .ref q98) (ty := .array (.long)) (C := RX12) (T := TX12) (N := 172) hx hb hts inX12_init_c12 tyX12 tyX12_ok nmX12 hown hK hP hD hS 0 rfl rfl 78 (by decide) (hts (.fieldLink RX12 163 "DiskEvidenceModel" "madeOf" "[J") (List.mem_of_getElem? (i := 59) rfl)) (fun _ h9 => h9) rfl hin rfl (by decide +kernel) rfl rfl (by rw [hfl_97]; decide) dX12_init_415 (fun H locs hP hD hS => ?_)
  have hP : va_P (dC, dI) vwCl [(h0, .inr (12, (fs_97.set 78 (.ref q98)))), (q1, .inl (cI, 4000, (.inl (fun _ => 0)))), (q3, .inl (cI, 6, (.inl (fun _ => 0)))), (q5, .inl (cI, 49152, (.inl (fun _ => 0)))), (q7, .inl (cZ, 768, (.inl (fun _ => 0)))), (q98, .inl (cJ, 900, (.inr (.inl (fun _ => 0)))))] H := hP
  have hD : va_D A [(h0, .inr (12, (fs_97.set 78 (.ref q98)))), (q1, .inl (cI, 4000, (.inl (fun _ => 0)))), (q3, .inl (cI, 6, (.inl (fun _ => 0)))), (q5, .inl (cI, 49152, (.inl (fun _ => 0)))), (q7, .inl (cZ, 768, (.inl (fun _ => 0)))), (q98, .inl (cJ, 900, (.inr (.inl (fun _ => 0)))))] := hD
  obtain ⟨fs_99, efs_99⟩ : ∃ y, y = (fs_97.set 78 (.ref q98)) := ⟨_, rfl⟩
  rw [← efs_99] at hP hD
  have hfl_99 : fs_99.length = 172 := by rw [efs_99, List.length_set]; exact hfl_97
  have hP := hP.sub (ws' := [(h0, .inr (12, fs_99)), (q1, .inl (cI, 4000, (.inl (fun _ => 0)))), (q3, .inl (cI, 6, (.inl (fun _ => 0)))), (q5, .inl (cI, 49152, (.inl (fun _ => 0)))), (q7, .inl (cZ, 768, (.inl (fun _ => 0))))]) [0, 1, 2, 3, 4] rfl
  have hD := hD.sub (ws' := [(h0, .inr (12, fs_99)), (q1, .inl (cI, 4000, (.inl (fun _ => 0)))), (q3, .inl (cI, 6, (.inl (fun _ => 0)))), (q5, .inl (cI, 49152, (.inl (fun _ => 0)))), (q7, .inl (cZ, 768, (.inl (fun _ => 0))))]) [0, 1, 2, 3, 4] (by decide) rfl
  refine lv_aload_n hx hb dX12_init_418 rfl (lv_at hl 0 rfl) ?_
  refine lv_sipush (v := 900) hx hb dX12_init_419 (by decide) ?_
  refine nw_arr (atype := .long) (N' := 900) (a0 := (900, (.inr (.inl (fun _ => 0))))) hx hb (hts (.arrayClass .long) (List.mem_of_getElem? (i := 57) rfl)) rfl hK 3 (cI := cJ) rfl hP hD hS hA (fun _ => rfl) (by decide) (by decide) (by decide) (Nat.le_of_ble_eq_true rfl) (Nat.le_of_ble_eq_true rfl) dX12_init_422 (fun q100 H hP hD hS => ?_)
  have hP : va_P (dC, dI) vwCl [(h0, .inr (12, fs_99)), (q1, .inl (cI, 4000, (.inl (fun _ => 0)))), (q3, .inl (cI, 6, (.inl (fun _ => 0)))), (q5, .inl (cI, 49152, (.inl (fun _ => 0)))), (q7, .inl (cZ, 768, (.inl (fun _ => 0)))), (q100, .inl (cJ, 900, (.inr (.inl (fun _ => 0)))))] H := hP
  have hD : va_D A [(h0, .inr (12, fs_99)), (q1, .inl (cI, 4000, (.inl (fun _ => 0)))), (q3, .inl (cI, 6, (.inl (fun _ => 0)))), (q5, .inl (cI, 49152, (.inl (fun _ => 0)))), (q7, .inl (cZ, 768, (.inl (fun _ => 0)))), (q100, .inl (cJ, 900, (.inr (.inl (fun _ => 0)))))] := hD
  refine W.widen (k := 50) (n := 401488) (by decide) (by decide) ?_
  refine va_putF (D := (dC, dI)) (ci := 12) (v := .ref q100) (ty := .array (.long)) (C := RX12) (T := TX12) (N := 172) hx hb hts inX12_init_c12 tyX12 tyX12_ok nmX12 hown hK hP hD hS 0 rfl rfl 79 (by decide) (hts (.fieldLink RX12 166 "DiskEvidenceModel" "alteredOf" "[J") (List.mem_of_getElem? (i := 60) rfl)) (fun _ h9 => h9) rfl hin rfl (by decide +kernel) rfl rfl (by rw [hfl_99]; decide) dX12_init_424 (fun H locs hP hD hS => ?_)
  have hP : va_P (dC, dI) vwCl [(h0, .inr (12, (fs_99.set 79 (.ref q100)))), (q1, .inl (cI, 4000, (.inl (fun _ => 0)))), (q3, .inl (cI, 6, (.inl (fun _ => 0)))), (q5, .inl (cI, 49152, (.inl (fun _ => 0)))), (q7, .inl (cZ, 768, (.inl (fun _ => 0)))), (q100, .inl (cJ, 900, (.inr (.inl (fun _ => 0)))))] H := hP
  have hD : va_D A [(h0, .inr (12, (fs_99.set 79 (.ref q100)))), (q1, .inl (cI, 4000, (.inl (fun _ => 0)))), (q3, .inl (cI, 6, (.inl (fun _ => 0)))), (q5, .inl (cI, 49152, (.inl (fun _ => 0)))), (q7, .inl (cZ, 768, (.inl (fun _ => 0)))), (q100, .inl (cJ, 900, (.inr (.inl (fun _ => 0)))))] := hD
  obtain ⟨fs_101, efs_101⟩ : ∃ y, y = (fs_99.set 79 (.ref q100)) := ⟨_, rfl⟩
  rw [← efs_101] at hP hD
  have hfl_101 : fs_101.length = 172 := by rw [efs_101, List.length_set]; exact hfl_99
  have hP := hP.sub (ws' := [(h0, .inr (12, fs_101)), (q1, .inl (cI, 4000, (.inl (fun _ => 0)))), (q3, .inl (cI, 6, (.inl (fun _ => 0)))), (q5, .inl (cI, 49152, (.inl (fun _ => 0)))), (q7, .inl (cZ, 768, (.inl (fun _ => 0))))]) [0, 1, 2, 3, 4] rfl
  have hD := hD.sub (ws' := [(h0, .inr (12, fs_101)), (q1, .inl (cI, 4000, (.inl (fun _ => 0)))), (q3, .inl (cI, 6, (.inl (fun _ => 0)))), (q5, .inl (cI, 49152, (.inl (fun _ => 0)))), (q7, .inl (cZ, 768, (.inl (fun _ => 0))))]) [0, 1, 2, 3, 4] (by decide) rfl
  refine lv_aload_n hx hb dX12_init_427 rfl (lv_at hl 0 rfl) ?_
  refine lv_sipush (v := 900) hx hb dX12_init_428 (by decide) ?_
  refine nw_arr (atype := .long) (N' := 900) (a0 := (900, (.inr (.inl (fun _ => 0))))) hx hb (hts (.arrayClass .long) (List.mem_of_getElem? (i := 57) rfl)) rfl hK 3 (cI := cJ) rfl hP hD hS hA (fun _ => rfl) (by decide) (by decide) (by decide) (Nat.le_of_ble_eq_true rfl) (Nat.le_of_ble_eq_true rfl) dX12_init_431 (fun q102 H hP hD hS => ?_)
  have hP : va_P (dC, dI) vwCl [(h0, .inr (12, fs_101)), (q1, .inl (cI, 4000, (.inl (fun _ => 0)))), (q3, .inl (cI, 6, (.inl (fun _ => 0)))), (q5, .inl (cI, 49152, (.inl (fun _ => 0)))), (q7, .inl (cZ, 768, (.inl (fun _ => 0)))), (q102, .inl (cJ, 900, (.inr (.inl (fun _ => 0)))))] H := hP
  have hD : va_D A [(h0, .inr (12, fs_101)), (q1, .inl (cI, 4000, (.inl (fun _ => 0)))), (q3, .inl (cI, 6, (.inl (fun _ => 0)))), (q5, .inl (cI, 49152, (.inl (fun _ => 0)))), (q7, .inl (cZ, 768, (.inl (fun _ => 0)))), (q102, .inl (cJ, 900, (.inr (.inl (fun _ => 0)))))] := hD
  refine W.widen (k := 51) (n := 402388) (by decide) (by decide) ?_
  refine va_putF (D := (dC, dI)) (ci := 12) (v := .ref q102) (ty := .array (.long)) (C := RX12) (T := TX12) (N := 172) hx hb hts inX12_init_c12 tyX12 tyX12_ok nmX12 hown hK hP hD hS 0 rfl rfl 80 (by decide) (hts (.fieldLink RX12 169 "DiskEvidenceModel" "erasedOf" "[J") (List.mem_of_getElem? (i := 61) rfl)) (fun _ h9 => h9) rfl hin rfl (by decide +kernel) rfl rfl (by rw [hfl_101]; decide) dX12_init_433 (fun H locs hP hD hS => ?_)
  have hP : va_P (dC, dI) vwCl [(h0, .inr (12, (fs_101.set 80 (.ref q102)))), (q1, .inl (cI, 4000, (.inl (fun _ => 0)))), (q3, .inl (cI, 6, (.inl (fun _ => 0)))), (q5, .inl (cI, 49152, (.inl (fun _ => 0)))), (q7, .inl (cZ, 768, (.inl (fun _ => 0)))), (q102, .inl (cJ, 900, (.inr (.inl (fun _ => 0)))))] H := hP
  have hD : va_D A [(h0, .inr (12, (fs_101.set 80 (.ref q102)))), (q1, .inl (cI, 4000, (.inl (fun _ => 0)))), (q3, .inl (cI, 6, (.inl (fun _ => 0)))), (q5, .inl (cI, 49152, (.inl (fun _ => 0)))), (q7, .inl (cZ, 768, (.inl (fun _ => 0)))), (q102, .inl (cJ, 900, (.inr (.inl (fun _ => 0)))))] := hD
  obtain ⟨fs_103, efs_103⟩ : ∃ y, y = (fs_101.set 80 (.ref q102)) := ⟨_, rfl⟩
  rw [← efs_103] at hP hD
  have hfl_103 : fs_103.length = 172 := by rw [efs_103, List.length_set]; exact hfl_101
  have hP := hP.sub (ws' := [(h0, .inr (12, fs_103)), (q1, .inl (cI, 4000, (.inl (fun _ => 0)))), (q3, .inl (cI, 6, (.inl (fun _ => 0)))), (q5, .inl (cI, 49152, (.inl (fun _ => 0)))), (q7, .inl (cZ, 768, (.inl (fun _ => 0))))]) [0, 1, 2, 3, 4] rfl
  have hD := hD.sub (ws' := [(h0, .inr (12, fs_103)), (q1, .inl (cI, 4000, (.inl (fun _ => 0)))), (q3, .inl (cI, 6, (.inl (fun _ => 0)))), (q5, .inl (cI, 49152, (.inl (fun _ => 0)))), (q7, .inl (cZ, 768, (.inl (fun _ => 0))))]) [0, 1, 2, 3, 4] (by decide) rfl
  refine lv_aload_n hx hb dX12_init_436 rfl (lv_at hl 0 rfl) ?_
  refine lv_sipush (v := 900) hx hb dX12_init_437 (by decide) ?_
  refine nw_arr (atype := .int) (N' := 900) (a0 := (900, (.inl (fun _ => 0)))) hx hb (hts (.arrayClass .int) (List.mem_of_getElem? (i := 4) rfl)) rfl hK 0 (cI := cI) rfl hP hD hS hA (fun _ => rfl) (by decide) (by decide) (by decide) (Nat.le_of_ble_eq_true rfl) (Nat.le_of_ble_eq_true rfl) dX12_init_440 (fun q104 H hP hD hS => ?_)
  have hP : va_P (dC, dI) vwCl [(h0, .inr (12, fs_103)), (q1, .inl (cI, 4000, (.inl (fun _ => 0)))), (q3, .inl (cI, 6, (.inl (fun _ => 0)))), (q5, .inl (cI, 49152, (.inl (fun _ => 0)))), (q7, .inl (cZ, 768, (.inl (fun _ => 0)))), (q104, .inl (cI, 900, (.inl (fun _ => 0))))] H := hP
  have hD : va_D A [(h0, .inr (12, fs_103)), (q1, .inl (cI, 4000, (.inl (fun _ => 0)))), (q3, .inl (cI, 6, (.inl (fun _ => 0)))), (q5, .inl (cI, 49152, (.inl (fun _ => 0)))), (q7, .inl (cZ, 768, (.inl (fun _ => 0)))), (q104, .inl (cI, 900, (.inl (fun _ => 0))))] := hD
  refine W.widen (k := 52) (n := 403288) (by decide) (by decide) ?_
  refine va_putF (D := (dC, dI)) (ci := 12) (v := .ref q104) (ty := .array (.int)) (C := RX12) (T := TX12) (N := 172) hx hb hts inX12_init_c12 tyX12 tyX12_ok nmX12 hown hK hP hD hS 0 rfl rfl 81 (by decide) (hts (.fieldLink RX12 172 "DiskEvidenceModel" "gradeOf" "[I") (List.mem_of_getElem? (i := 62) rfl)) (fun _ h9 => h9) rfl hin rfl (by decide +kernel) rfl rfl (by rw [hfl_103]; decide) dX12_init_442 (fun H locs hP hD hS => ?_)
  have hP : va_P (dC, dI) vwCl [(h0, .inr (12, (fs_103.set 81 (.ref q104)))), (q1, .inl (cI, 4000, (.inl (fun _ => 0)))), (q3, .inl (cI, 6, (.inl (fun _ => 0)))), (q5, .inl (cI, 49152, (.inl (fun _ => 0)))), (q7, .inl (cZ, 768, (.inl (fun _ => 0)))), (q104, .inl (cI, 900, (.inl (fun _ => 0))))] H := hP
  have hD : va_D A [(h0, .inr (12, (fs_103.set 81 (.ref q104)))), (q1, .inl (cI, 4000, (.inl (fun _ => 0)))), (q3, .inl (cI, 6, (.inl (fun _ => 0)))), (q5, .inl (cI, 49152, (.inl (fun _ => 0)))), (q7, .inl (cZ, 768, (.inl (fun _ => 0)))), (q104, .inl (cI, 900, (.inl (fun _ => 0))))] := hD
  obtain ⟨fs_105, efs_105⟩ : ∃ y, y = (fs_103.set 81 (.ref q104)) := ⟨_, rfl⟩
  rw [← efs_105] at hP hD
  have hfl_105 : fs_105.length = 172 := by rw [efs_105, List.length_set]; exact hfl_103
  have hP := hP.sub (ws' := [(h0, .inr (12, fs_105)), (q1, .inl (cI, 4000, (.inl (fun _ => 0)))), (q3, .inl (cI, 6, (.inl (fun _ => 0)))), (q5, .inl (cI, 49152, (.inl (fun _ => 0)))), (q7, .inl (cZ, 768, (.inl (fun _ => 0))))]) [0, 1, 2, 3, 4] rfl
  have hD := hD.sub (ws' := [(h0, .inr (12, fs_105)), (q1, .inl (cI, 4000, (.inl (fun _ => 0)))), (q3, .inl (cI, 6, (.inl (fun _ => 0)))), (q5, .inl (cI, 49152, (.inl (fun _ => 0)))), (q7, .inl (cZ, 768, (.inl (fun _ => 0))))]) [0, 1, 2, 3, 4] (by decide) rfl
  refine lv_aload_n hx hb dX12_init_445 rfl (lv_at hl 0 rfl) ?_
  refine lv_sipush (v := 900) hx hb dX12_init_446 (by decide) ?_
  refine nw_arr (atype := .int) (N' := 900) (a0 := (900, (.inl (fun _ => 0)))) hx hb (hts (.arrayClass .int) (List.mem_of_getElem? (i := 4) rfl)) rfl hK 0 (cI := cI) rfl hP hD hS hA (fun _ => rfl) (by decide) (by decide) (by decide) (Nat.le_of_ble_eq_true rfl) (Nat.le_of_ble_eq_true rfl) dX12_init_449 (fun q106 H hP hD hS => ?_)
  have hP : va_P (dC, dI) vwCl [(h0, .inr (12, fs_105)), (q1, .inl (cI, 4000, (.inl (fun _ => 0)))), (q3, .inl (cI, 6, (.inl (fun _ => 0)))), (q5, .inl (cI, 49152, (.inl (fun _ => 0)))), (q7, .inl (cZ, 768, (.inl (fun _ => 0)))), (q106, .inl (cI, 900, (.inl (fun _ => 0))))] H := hP
  have hD : va_D A [(h0, .inr (12, fs_105)), (q1, .inl (cI, 4000, (.inl (fun _ => 0)))), (q3, .inl (cI, 6, (.inl (fun _ => 0)))), (q5, .inl (cI, 49152, (.inl (fun _ => 0)))), (q7, .inl (cZ, 768, (.inl (fun _ => 0)))), (q106, .inl (cI, 900, (.inl (fun _ => 0))))] := hD
  refine W.widen (k := 53) (n := 404188) (by decide) (by decide) ?_
  refine va_putF (D := (dC, dI)) (ci := 12) (v := .ref q106) (ty := .array (.int)) (C := RX12) (T := TX12) (N := 172) hx hb hts inX12_init_c12 tyX12 tyX12_ok nmX12 hown hK hP hD hS 0 rfl rfl 82 (by decide) (hts (.fieldLink RX12 175 "DiskEvidenceModel" "parentOf" "[I") (List.mem_of_getElem? (i := 63) rfl)) (fun _ h9 => h9) rfl hin rfl (by decide +kernel) rfl rfl (by rw [hfl_105]; decide) dX12_init_451 (fun H locs hP hD hS => ?_)
  have hP : va_P (dC, dI) vwCl [(h0, .inr (12, (fs_105.set 82 (.ref q106)))), (q1, .inl (cI, 4000, (.inl (fun _ => 0)))), (q3, .inl (cI, 6, (.inl (fun _ => 0)))), (q5, .inl (cI, 49152, (.inl (fun _ => 0)))), (q7, .inl (cZ, 768, (.inl (fun _ => 0)))), (q106, .inl (cI, 900, (.inl (fun _ => 0))))] H := hP
  have hD : va_D A [(h0, .inr (12, (fs_105.set 82 (.ref q106)))), (q1, .inl (cI, 4000, (.inl (fun _ => 0)))), (q3, .inl (cI, 6, (.inl (fun _ => 0)))), (q5, .inl (cI, 49152, (.inl (fun _ => 0)))), (q7, .inl (cZ, 768, (.inl (fun _ => 0)))), (q106, .inl (cI, 900, (.inl (fun _ => 0))))] := hD
  obtain ⟨fs_107, efs_107⟩ : ∃ y, y = (fs_105.set 82 (.ref q106)) := ⟨_, rfl⟩
  rw [← efs_107] at hP hD
  have hfl_107 : fs_107.length = 172 := by rw [efs_107, List.length_set]; exact hfl_105
  have hP := hP.sub (ws' := [(h0, .inr (12, fs_107)), (q1, .inl (cI, 4000, (.inl (fun _ => 0)))), (q3, .inl (cI, 6, (.inl (fun _ => 0)))), (q5, .inl (cI, 49152, (.inl (fun _ => 0)))), (q7, .inl (cZ, 768, (.inl (fun _ => 0))))]) [0, 1, 2, 3, 4] rfl
  have hD := hD.sub (ws' := [(h0, .inr (12, fs_107)), (q1, .inl (cI, 4000, (.inl (fun _ => 0)))), (q3, .inl (cI, 6, (.inl (fun _ => 0)))), (q5, .inl (cI, 49152, (.inl (fun _ => 0)))), (q7, .inl (cZ, 768, (.inl (fun _ => 0))))]) [0, 1, 2, 3, 4] (by decide) rfl
  refine lv_aload_n hx hb dX12_init_454 rfl (lv_at hl 0 rfl) ?_
  refine lv_sipush (v := 900) hx hb dX12_init_455 (by decide) ?_
  refine nw_arr (atype := .int) (N' := 900) (a0 := (900, (.inl (fun _ => 0)))) hx hb (hts (.arrayClass .int) (List.mem_of_getElem? (i := 4) rfl)) rfl hK 0 (cI := cI) rfl hP hD hS hA (fun _ => rfl) (by decide) (by decide) (by decide) (Nat.le_of_ble_eq_true rfl) (Nat.le_of_ble_eq_true rfl) dX12_init_458 (fun q108 H hP hD hS => ?_)
  have hP : va_P (dC, dI) vwCl [(h0, .inr (12, fs_107)), (q1, .inl (cI, 4000, (.inl (fun _ => 0)))), (q3, .inl (cI, 6, (.inl (fun _ => 0)))), (q5, .inl (cI, 49152, (.inl (fun _ => 0)))), (q7, .inl (cZ, 768, (.inl (fun _ => 0)))), (q108, .inl (cI, 900, (.inl (fun _ => 0))))] H := hP
  have hD : va_D A [(h0, .inr (12, fs_107)), (q1, .inl (cI, 4000, (.inl (fun _ => 0)))), (q3, .inl (cI, 6, (.inl (fun _ => 0)))), (q5, .inl (cI, 49152, (.inl (fun _ => 0)))), (q7, .inl (cZ, 768, (.inl (fun _ => 0)))), (q108, .inl (cI, 900, (.inl (fun _ => 0))))] := hD
  refine W.widen (k := 54) (n := 405088) (by decide) (by decide) ?_
  refine va_putF (D := (dC, dI)) (ci := 12) (v := .ref q108) (ty := .array (.int)) (C := RX12) (T := TX12) (N := 172) hx hb hts inX12_init_c12 tyX12 tyX12_ok nmX12 hown hK hP hD hS 0 rfl rfl 83 (by decide) (hts (.fieldLink RX12 178 "DiskEvidenceModel" "depthOf" "[I") (List.mem_of_getElem? (i := 64) rfl)) (fun _ h9 => h9) rfl hin rfl (by decide +kernel) rfl rfl (by rw [hfl_107]; decide) dX12_init_460 (fun H locs hP hD hS => ?_)
  have hP : va_P (dC, dI) vwCl [(h0, .inr (12, (fs_107.set 83 (.ref q108)))), (q1, .inl (cI, 4000, (.inl (fun _ => 0)))), (q3, .inl (cI, 6, (.inl (fun _ => 0)))), (q5, .inl (cI, 49152, (.inl (fun _ => 0)))), (q7, .inl (cZ, 768, (.inl (fun _ => 0)))), (q108, .inl (cI, 900, (.inl (fun _ => 0))))] H := hP
  have hD : va_D A [(h0, .inr (12, (fs_107.set 83 (.ref q108)))), (q1, .inl (cI, 4000, (.inl (fun _ => 0)))), (q3, .inl (cI, 6, (.inl (fun _ => 0)))), (q5, .inl (cI, 49152, (.inl (fun _ => 0)))), (q7, .inl (cZ, 768, (.inl (fun _ => 0)))), (q108, .inl (cI, 900, (.inl (fun _ => 0))))] := hD
  obtain ⟨fs_109, efs_109⟩ : ∃ y, y = (fs_107.set 83 (.ref q108)) := ⟨_, rfl⟩
  rw [← efs_109] at hP hD
  have hfl_109 : fs_109.length = 172 := by rw [efs_109, List.length_set]; exact hfl_107
  have hP := hP.sub (ws' := [(h0, .inr (12, fs_109)), (q1, .inl (cI, 4000, (.inl (fun _ => 0)))), (q3, .inl (cI, 6, (.inl (fun _ => 0)))), (q5, .inl (cI, 49152, (.inl (fun _ => 0)))), (q7, .inl (cZ, 768, (.inl (fun _ => 0))))]) [0, 1, 2, 3, 4] rfl
  have hD := hD.sub (ws' := [(h0, .inr (12, fs_109)), (q1, .inl (cI, 4000, (.inl (fun _ => 0)))), (q3, .inl (cI, 6, (.inl (fun _ => 0)))), (q5, .inl (cI, 49152, (.inl (fun _ => 0)))), (q7, .inl (cZ, 768, (.inl (fun _ => 0))))]) [0, 1, 2, 3, 4] (by decide) rfl
  refine lv_aload_n hx hb dX12_init_463 rfl (lv_at hl 0 rfl) ?_
  refine lv_sipush (v := 900) hx hb dX12_init_464 (by decide) ?_
  refine nw_arr (atype := .int) (N' := 900) (a0 := (900, (.inl (fun _ => 0)))) hx hb (hts (.arrayClass .int) (List.mem_of_getElem? (i := 4) rfl)) rfl hK 0 (cI := cI) rfl hP hD hS hA (fun _ => rfl) (by decide) (by decide) (by decide) (Nat.le_of_ble_eq_true rfl) (Nat.le_of_ble_eq_true rfl) dX12_init_467 (fun q110 H hP hD hS => ?_)
  have hP : va_P (dC, dI) vwCl [(h0, .inr (12, fs_109)), (q1, .inl (cI, 4000, (.inl (fun _ => 0)))), (q3, .inl (cI, 6, (.inl (fun _ => 0)))), (q5, .inl (cI, 49152, (.inl (fun _ => 0)))), (q7, .inl (cZ, 768, (.inl (fun _ => 0)))), (q110, .inl (cI, 900, (.inl (fun _ => 0))))] H := hP
  have hD : va_D A [(h0, .inr (12, fs_109)), (q1, .inl (cI, 4000, (.inl (fun _ => 0)))), (q3, .inl (cI, 6, (.inl (fun _ => 0)))), (q5, .inl (cI, 49152, (.inl (fun _ => 0)))), (q7, .inl (cZ, 768, (.inl (fun _ => 0)))), (q110, .inl (cI, 900, (.inl (fun _ => 0))))] := hD
  refine W.widen (k := 55) (n := 405988) (by decide) (by decide) ?_
  refine va_putF (D := (dC, dI)) (ci := 12) (v := .ref q110) (ty := .array (.int)) (C := RX12) (T := TX12) (N := 172) hx hb hts inX12_init_c12 tyX12 tyX12_ok nmX12 hown hK hP hD hS 0 rfl rfl 84 (by decide) (hts (.fieldLink RX12 181 "DiskEvidenceModel" "faultsOf" "[I") (List.mem_of_getElem? (i := 65) rfl)) (fun _ h9 => h9) rfl hin rfl (by decide +kernel) rfl rfl (by rw [hfl_109]; decide) dX12_init_469 (fun H locs hP hD hS => ?_)
  have hP : va_P (dC, dI) vwCl [(h0, .inr (12, (fs_109.set 84 (.ref q110)))), (q1, .inl (cI, 4000, (.inl (fun _ => 0)))), (q3, .inl (cI, 6, (.inl (fun _ => 0)))), (q5, .inl (cI, 49152, (.inl (fun _ => 0)))), (q7, .inl (cZ, 768, (.inl (fun _ => 0)))), (q110, .inl (cI, 900, (.inl (fun _ => 0))))] H := hP
  have hD : va_D A [(h0, .inr (12, (fs_109.set 84 (.ref q110)))), (q1, .inl (cI, 4000, (.inl (fun _ => 0)))), (q3, .inl (cI, 6, (.inl (fun _ => 0)))), (q5, .inl (cI, 49152, (.inl (fun _ => 0)))), (q7, .inl (cZ, 768, (.inl (fun _ => 0)))), (q110, .inl (cI, 900, (.inl (fun _ => 0))))] := hD
  obtain ⟨fs_111, efs_111⟩ : ∃ y, y = (fs_109.set 84 (.ref q110)) := ⟨_, rfl⟩
  rw [← efs_111] at hP hD
  have hfl_111 : fs_111.length = 172 := by rw [efs_111, List.length_set]; exact hfl_109
  have hP := hP.sub (ws' := [(h0, .inr (12, fs_111)), (q1, .inl (cI, 4000, (.inl (fun _ => 0)))), (q3, .inl (cI, 6, (.inl (fun _ => 0)))), (q5, .inl (cI, 49152, (.inl (fun _ => 0)))), (q7, .inl (cZ, 768, (.inl (fun _ => 0))))]) [0, 1, 2, 3, 4] rfl
  have hD := hD.sub (ws' := [(h0, .inr (12, fs_111)), (q1, .inl (cI, 4000, (.inl (fun _ => 0)))), (q3, .inl (cI, 6, (.inl (fun _ => 0)))), (q5, .inl (cI, 49152, (.inl (fun _ => 0)))), (q7, .inl (cZ, 768, (.inl (fun _ => 0))))]) [0, 1, 2, 3, 4] (by decide) rfl
  refine lv_aload_n hx hb dX12_init_472 rfl (lv_at hl 0 rfl) ?_
  refine lv_sipush (v := 900) hx hb dX12_init_473 (by decide) ?_
  refine nw_arr (atype := .int) (N' := 900) (a0 := (900, (.inl (fun _ => 0)))) hx hb (hts (.arrayClass .int) (List.mem_of_getElem? (i := 4) rfl)) rfl hK 0 (cI := cI) rfl hP hD hS hA (fun _ => rfl) (by decide) (by decide) (by decide) (Nat.le_of_ble_eq_true rfl) (Nat.le_of_ble_eq_true rfl) dX12_init_476 (fun q112 H hP hD hS => ?_)
  have hP : va_P (dC, dI) vwCl [(h0, .inr (12, fs_111)), (q1, .inl (cI, 4000, (.inl (fun _ => 0)))), (q3, .inl (cI, 6, (.inl (fun _ => 0)))), (q5, .inl (cI, 49152, (.inl (fun _ => 0)))), (q7, .inl (cZ, 768, (.inl (fun _ => 0)))), (q112, .inl (cI, 900, (.inl (fun _ => 0))))] H := hP
  have hD : va_D A [(h0, .inr (12, fs_111)), (q1, .inl (cI, 4000, (.inl (fun _ => 0)))), (q3, .inl (cI, 6, (.inl (fun _ => 0)))), (q5, .inl (cI, 49152, (.inl (fun _ => 0)))), (q7, .inl (cZ, 768, (.inl (fun _ => 0)))), (q112, .inl (cI, 900, (.inl (fun _ => 0))))] := hD
  refine W.widen (k := 56) (n := 406888) (by decide) (by decide) ?_
  refine va_putF (D := (dC, dI)) (ci := 12) (v := .ref q112) (ty := .array (.int)) (C := RX12) (T := TX12) (N := 172) hx hb hts inX12_init_c12 tyX12 tyX12_ok nmX12 hown hK hP hD hS 0 rfl rfl 85 (by decide) (hts (.fieldLink RX12 184 "DiskEvidenceModel" "blocksMany" "[I") (List.mem_of_getElem? (i := 66) rfl)) (fun _ h9 => h9) rfl hin rfl (by decide +kernel) rfl rfl (by rw [hfl_111]; decide) dX12_init_478 (fun H locs hP hD hS => ?_)
  have hP : va_P (dC, dI) vwCl [(h0, .inr (12, (fs_111.set 85 (.ref q112)))), (q1, .inl (cI, 4000, (.inl (fun _ => 0)))), (q3, .inl (cI, 6, (.inl (fun _ => 0)))), (q5, .inl (cI, 49152, (.inl (fun _ => 0)))), (q7, .inl (cZ, 768, (.inl (fun _ => 0)))), (q112, .inl (cI, 900, (.inl (fun _ => 0))))] H := hP
  have hD : va_D A [(h0, .inr (12, (fs_111.set 85 (.ref q112)))), (q1, .inl (cI, 4000, (.inl (fun _ => 0)))), (q3, .inl (cI, 6, (.inl (fun _ => 0)))), (q5, .inl (cI, 49152, (.inl (fun _ => 0)))), (q7, .inl (cZ, 768, (.inl (fun _ => 0)))), (q112, .inl (cI, 900, (.inl (fun _ => 0))))] := hD
  obtain ⟨fs_113, efs_113⟩ : ∃ y, y = (fs_111.set 85 (.ref q112)) := ⟨_, rfl⟩
  rw [← efs_113] at hP hD
  have hfl_113 : fs_113.length = 172 := by rw [efs_113, List.length_set]; exact hfl_111
  have hP := hP.sub (ws' := [(h0, .inr (12, fs_113)), (q1, .inl (cI, 4000, (.inl (fun _ => 0)))), (q3, .inl (cI, 6, (.inl (fun _ => 0)))), (q5, .inl (cI, 49152, (.inl (fun _ => 0)))), (q7, .inl (cZ, 768, (.inl (fun _ => 0))))]) [0, 1, 2, 3, 4] rfl
  have hD := hD.sub (ws' := [(h0, .inr (12, fs_113)), (q1, .inl (cI, 4000, (.inl (fun _ => 0)))), (q3, .inl (cI, 6, (.inl (fun _ => 0)))), (q5, .inl (cI, 49152, (.inl (fun _ => 0)))), (q7, .inl (cZ, 768, (.inl (fun _ => 0))))]) [0, 1, 2, 3, 4] (by decide) rfl
  refine lv_aload_n hx hb dX12_init_481 rfl (lv_at hl 0 rfl) ?_
  refine lv_ldc (v := 230400) hx hb hown (hts (.constant RX12 187 (230400)) (List.mem_of_getElem? (i := 67) rfl)) dX12_init_482 ?_
  refine nw_arr (atype := .int) (N' := 230400) (a0 := (230400, (.inl (fun _ => 0)))) hx hb (hts (.arrayClass .int) (List.mem_of_getElem? (i := 4) rfl)) rfl hK 0 (cI := cI) rfl hP hD hS hA (fun _ => rfl) (by decide) (by decide) (by decide) (Nat.le_of_ble_eq_true rfl) (Nat.le_of_ble_eq_true rfl) dX12_init_484 (fun q114 H hP hD hS => ?_)
  have hP : va_P (dC, dI) vwCl [(h0, .inr (12, fs_113)), (q1, .inl (cI, 4000, (.inl (fun _ => 0)))), (q3, .inl (cI, 6, (.inl (fun _ => 0)))), (q5, .inl (cI, 49152, (.inl (fun _ => 0)))), (q7, .inl (cZ, 768, (.inl (fun _ => 0)))), (q114, .inl (cI, 230400, (.inl (fun _ => 0))))] H := hP
  have hD : va_D A [(h0, .inr (12, fs_113)), (q1, .inl (cI, 4000, (.inl (fun _ => 0)))), (q3, .inl (cI, 6, (.inl (fun _ => 0)))), (q5, .inl (cI, 49152, (.inl (fun _ => 0)))), (q7, .inl (cZ, 768, (.inl (fun _ => 0)))), (q114, .inl (cI, 230400, (.inl (fun _ => 0))))] := hD
  refine W.widen (k := 57) (n := 637288) (by decide) (by decide) ?_
  refine va_putF (D := (dC, dI)) (ci := 12) (v := .ref q114) (ty := .array (.int)) (C := RX12) (T := TX12) (N := 172) hx hb hts inX12_init_c12 tyX12 tyX12_ok nmX12 hown hK hP hD hS 0 rfl rfl 86 (by decide) (hts (.fieldLink RX12 188 "DiskEvidenceModel" "fileBlocks" "[I") (List.mem_of_getElem? (i := 68) rfl)) (fun _ h9 => h9) rfl hin rfl (by decide +kernel) rfl rfl (by rw [hfl_113]; decide) dX12_init_486 (fun H locs hP hD hS => ?_)
  have hP : va_P (dC, dI) vwCl [(h0, .inr (12, (fs_113.set 86 (.ref q114)))), (q1, .inl (cI, 4000, (.inl (fun _ => 0)))), (q3, .inl (cI, 6, (.inl (fun _ => 0)))), (q5, .inl (cI, 49152, (.inl (fun _ => 0)))), (q7, .inl (cZ, 768, (.inl (fun _ => 0)))), (q114, .inl (cI, 230400, (.inl (fun _ => 0))))] H := hP
  have hD : va_D A [(h0, .inr (12, (fs_113.set 86 (.ref q114)))), (q1, .inl (cI, 4000, (.inl (fun _ => 0)))), (q3, .inl (cI, 6, (.inl (fun _ => 0)))), (q5, .inl (cI, 49152, (.inl (fun _ => 0)))), (q7, .inl (cZ, 768, (.inl (fun _ => 0)))), (q114, .inl (cI, 230400, (.inl (fun _ => 0))))] := hD
  obtain ⟨fs_115, efs_115⟩ : ∃ y, y = (fs_113.set 86 (.ref q114)) := ⟨_, rfl⟩
  rw [← efs_115] at hP hD
  have hfl_115 : fs_115.length = 172 := by rw [efs_115, List.length_set]; exact hfl_113
  have hP := hP.sub (ws' := [(h0, .inr (12, fs_115)), (q1, .inl (cI, 4000, (.inl (fun _ => 0)))), (q3, .inl (cI, 6, (.inl (fun _ => 0)))), (q5, .inl (cI, 49152, (.inl (fun _ => 0)))), (q7, .inl (cZ, 768, (.inl (fun _ => 0))))]) [0, 1, 2, 3, 4] rfl
  have hD := hD.sub (ws' := [(h0, .inr (12, fs_115)), (q1, .inl (cI, 4000, (.inl (fun _ => 0)))), (q3, .inl (cI, 6, (.inl (fun _ => 0)))), (q5, .inl (cI, 49152, (.inl (fun _ => 0)))), (q7, .inl (cZ, 768, (.inl (fun _ => 0))))]) [0, 1, 2, 3, 4] (by decide) rfl
  refine lv_aload_n hx hb dX12_init_489 rfl (lv_at hl 0 rfl) ?_
  refine lv_sipush (v := 900) hx hb dX12_init_490 (by decide) ?_
  refine nw_arr (atype := .int) (N' := 900) (a0 := (900, (.inl (fun _ => 0)))) hx hb (hts (.arrayClass .int) (List.mem_of_getElem? (i := 4) rfl)) rfl hK 0 (cI := cI) rfl hP hD hS hA (fun _ => rfl) (by decide) (by decide) (by decide) (Nat.le_of_ble_eq_true rfl) (Nat.le_of_ble_eq_true rfl) dX12_init_493 (fun q116 H hP hD hS => ?_)
  have hP : va_P (dC, dI) vwCl [(h0, .inr (12, fs_115)), (q1, .inl (cI, 4000, (.inl (fun _ => 0)))), (q3, .inl (cI, 6, (.inl (fun _ => 0)))), (q5, .inl (cI, 49152, (.inl (fun _ => 0)))), (q7, .inl (cZ, 768, (.inl (fun _ => 0)))), (q116, .inl (cI, 900, (.inl (fun _ => 0))))] H := hP
  have hD : va_D A [(h0, .inr (12, fs_115)), (q1, .inl (cI, 4000, (.inl (fun _ => 0)))), (q3, .inl (cI, 6, (.inl (fun _ => 0)))), (q5, .inl (cI, 49152, (.inl (fun _ => 0)))), (q7, .inl (cZ, 768, (.inl (fun _ => 0)))), (q116, .inl (cI, 900, (.inl (fun _ => 0))))] := hD
  refine W.widen (k := 58) (n := 638188) (by decide) (by decide) ?_
  refine va_putF (D := (dC, dI)) (ci := 12) (v := .ref q116) (ty := .array (.int)) (C := RX12) (T := TX12) (N := 172) hx hb hts inX12_init_c12 tyX12 tyX12_ok nmX12 hown hK hP hD hS 0 rfl rfl 87 (by decide) (hts (.fieldLink RX12 191 "DiskEvidenceModel" "nameMany" "[I") (List.mem_of_getElem? (i := 69) rfl)) (fun _ h9 => h9) rfl hin rfl (by decide +kernel) rfl rfl (by rw [hfl_115]; decide) dX12_init_495 (fun H locs hP hD hS => ?_)
  have hP : va_P (dC, dI) vwCl [(h0, .inr (12, (fs_115.set 87 (.ref q116)))), (q1, .inl (cI, 4000, (.inl (fun _ => 0)))), (q3, .inl (cI, 6, (.inl (fun _ => 0)))), (q5, .inl (cI, 49152, (.inl (fun _ => 0)))), (q7, .inl (cZ, 768, (.inl (fun _ => 0)))), (q116, .inl (cI, 900, (.inl (fun _ => 0))))] H := hP
  have hD : va_D A [(h0, .inr (12, (fs_115.set 87 (.ref q116)))), (q1, .inl (cI, 4000, (.inl (fun _ => 0)))), (q3, .inl (cI, 6, (.inl (fun _ => 0)))), (q5, .inl (cI, 49152, (.inl (fun _ => 0)))), (q7, .inl (cZ, 768, (.inl (fun _ => 0)))), (q116, .inl (cI, 900, (.inl (fun _ => 0))))] := hD
  obtain ⟨fs_117, efs_117⟩ : ∃ y, y = (fs_115.set 87 (.ref q116)) := ⟨_, rfl⟩
  rw [← efs_117] at hP hD
  have hfl_117 : fs_117.length = 172 := by rw [efs_117, List.length_set]; exact hfl_115
  have hP := hP.sub (ws' := [(h0, .inr (12, fs_117)), (q1, .inl (cI, 4000, (.inl (fun _ => 0)))), (q3, .inl (cI, 6, (.inl (fun _ => 0)))), (q5, .inl (cI, 49152, (.inl (fun _ => 0)))), (q7, .inl (cZ, 768, (.inl (fun _ => 0))))]) [0, 1, 2, 3, 4] rfl
  have hD := hD.sub (ws' := [(h0, .inr (12, fs_117)), (q1, .inl (cI, 4000, (.inl (fun _ => 0)))), (q3, .inl (cI, 6, (.inl (fun _ => 0)))), (q5, .inl (cI, 49152, (.inl (fun _ => 0)))), (q7, .inl (cZ, 768, (.inl (fun _ => 0))))]) [0, 1, 2, 3, 4] (by decide) rfl
  refine lv_aload_n hx hb dX12_init_498 rfl (lv_at hl 0 rfl) ?_
  refine lv_sipush (v := 28800) hx hb dX12_init_499 (by decide) ?_
  refine nw_arr (atype := .int) (N' := 28800) (a0 := (28800, (.inl (fun _ => 0)))) hx hb (hts (.arrayClass .int) (List.mem_of_getElem? (i := 4) rfl)) rfl hK 0 (cI := cI) rfl hP hD hS hA (fun _ => rfl) (by decide) (by decide) (by decide) (Nat.le_of_ble_eq_true rfl) (Nat.le_of_ble_eq_true rfl) dX12_init_502 (fun q118 H hP hD hS => ?_)
  have hP : va_P (dC, dI) vwCl [(h0, .inr (12, fs_117)), (q1, .inl (cI, 4000, (.inl (fun _ => 0)))), (q3, .inl (cI, 6, (.inl (fun _ => 0)))), (q5, .inl (cI, 49152, (.inl (fun _ => 0)))), (q7, .inl (cZ, 768, (.inl (fun _ => 0)))), (q118, .inl (cI, 28800, (.inl (fun _ => 0))))] H := hP
  have hD : va_D A [(h0, .inr (12, fs_117)), (q1, .inl (cI, 4000, (.inl (fun _ => 0)))), (q3, .inl (cI, 6, (.inl (fun _ => 0)))), (q5, .inl (cI, 49152, (.inl (fun _ => 0)))), (q7, .inl (cZ, 768, (.inl (fun _ => 0)))), (q118, .inl (cI, 28800, (.inl (fun _ => 0))))] := hD
  refine W.widen (k := 59) (n := 666988) (by decide) (by decide) ?_
  refine va_putF (D := (dC, dI)) (ci := 12) (v := .ref q118) (ty := .array (.int)) (C := RX12) (T := TX12) (N := 172) hx hb hts inX12_init_c12 tyX12 tyX12_ok nmX12 hown hK hP hD hS 0 rfl rfl 88 (by decide) (hts (.fieldLink RX12 194 "DiskEvidenceModel" "nameBytes" "[I") (List.mem_of_getElem? (i := 70) rfl)) (fun _ h9 => h9) rfl hin rfl (by decide +kernel) rfl rfl (by rw [hfl_117]; decide) dX12_init_504 (fun H locs hP hD hS => ?_)
  have hP : va_P (dC, dI) vwCl [(h0, .inr (12, (fs_117.set 88 (.ref q118)))), (q1, .inl (cI, 4000, (.inl (fun _ => 0)))), (q3, .inl (cI, 6, (.inl (fun _ => 0)))), (q5, .inl (cI, 49152, (.inl (fun _ => 0)))), (q7, .inl (cZ, 768, (.inl (fun _ => 0)))), (q118, .inl (cI, 28800, (.inl (fun _ => 0))))] H := hP
  have hD : va_D A [(h0, .inr (12, (fs_117.set 88 (.ref q118)))), (q1, .inl (cI, 4000, (.inl (fun _ => 0)))), (q3, .inl (cI, 6, (.inl (fun _ => 0)))), (q5, .inl (cI, 49152, (.inl (fun _ => 0)))), (q7, .inl (cZ, 768, (.inl (fun _ => 0)))), (q118, .inl (cI, 28800, (.inl (fun _ => 0))))] := hD
  obtain ⟨fs_119, efs_119⟩ : ∃ y, y = (fs_117.set 88 (.ref q118)) := ⟨_, rfl⟩
  rw [← efs_119] at hP hD
  have hfl_119 : fs_119.length = 172 := by rw [efs_119, List.length_set]; exact hfl_117
  have hP := hP.sub (ws' := [(h0, .inr (12, fs_119)), (q1, .inl (cI, 4000, (.inl (fun _ => 0)))), (q3, .inl (cI, 6, (.inl (fun _ => 0)))), (q5, .inl (cI, 49152, (.inl (fun _ => 0)))), (q7, .inl (cZ, 768, (.inl (fun _ => 0))))]) [0, 1, 2, 3, 4] rfl
  have hD := hD.sub (ws' := [(h0, .inr (12, fs_119)), (q1, .inl (cI, 4000, (.inl (fun _ => 0)))), (q3, .inl (cI, 6, (.inl (fun _ => 0)))), (q5, .inl (cI, 49152, (.inl (fun _ => 0)))), (q7, .inl (cZ, 768, (.inl (fun _ => 0))))]) [0, 1, 2, 3, 4] (by decide) rfl
  refine lv_aload_n hx hb dX12_init_507 rfl (lv_at hl 0 rfl) ?_
  refine lv_sipush (v := 900) hx hb dX12_init_508 (by decide) ?_
  refine nw_arr (atype := .int) (N' := 900) (a0 := (900, (.inl (fun _ => 0)))) hx hb (hts (.arrayClass .int) (List.mem_of_getElem? (i := 4) rfl)) rfl hK 0 (cI := cI) rfl hP hD hS hA (fun _ => rfl) (by decide) (by decide) (by decide) (Nat.le_of_ble_eq_true rfl) (Nat.le_of_ble_eq_true rfl) dX12_init_511 (fun q120 H hP hD hS => ?_)
  have hP : va_P (dC, dI) vwCl [(h0, .inr (12, fs_119)), (q1, .inl (cI, 4000, (.inl (fun _ => 0)))), (q3, .inl (cI, 6, (.inl (fun _ => 0)))), (q5, .inl (cI, 49152, (.inl (fun _ => 0)))), (q7, .inl (cZ, 768, (.inl (fun _ => 0)))), (q120, .inl (cI, 900, (.inl (fun _ => 0))))] H := hP
  have hD : va_D A [(h0, .inr (12, fs_119)), (q1, .inl (cI, 4000, (.inl (fun _ => 0)))), (q3, .inl (cI, 6, (.inl (fun _ => 0)))), (q5, .inl (cI, 49152, (.inl (fun _ => 0)))), (q7, .inl (cZ, 768, (.inl (fun _ => 0)))), (q120, .inl (cI, 900, (.inl (fun _ => 0))))] := hD
  refine W.widen (k := 60) (n := 667888) (by decide) (by decide) ?_
  refine va_putF (D := (dC, dI)) (ci := 12) (v := .ref q120) (ty := .array (.int)) (C := RX12) (T := TX12) (N := 172) hx hb hts inX12_init_c12 tyX12 tyX12_ok nmX12 hown hK hP hD hS 0 rfl rfl 89 (by decide) (hts (.fieldLink RX12 197 "DiskEvidenceModel" "sourceOf" "[I") (List.mem_of_getElem? (i := 71) rfl)) (fun _ h9 => h9) rfl hin rfl (by decide +kernel) rfl rfl (by rw [hfl_119]; decide) dX12_init_513 (fun H locs hP hD hS => ?_)
  have hP : va_P (dC, dI) vwCl [(h0, .inr (12, (fs_119.set 89 (.ref q120)))), (q1, .inl (cI, 4000, (.inl (fun _ => 0)))), (q3, .inl (cI, 6, (.inl (fun _ => 0)))), (q5, .inl (cI, 49152, (.inl (fun _ => 0)))), (q7, .inl (cZ, 768, (.inl (fun _ => 0)))), (q120, .inl (cI, 900, (.inl (fun _ => 0))))] H := hP
  have hD : va_D A [(h0, .inr (12, (fs_119.set 89 (.ref q120)))), (q1, .inl (cI, 4000, (.inl (fun _ => 0)))), (q3, .inl (cI, 6, (.inl (fun _ => 0)))), (q5, .inl (cI, 49152, (.inl (fun _ => 0)))), (q7, .inl (cZ, 768, (.inl (fun _ => 0)))), (q120, .inl (cI, 900, (.inl (fun _ => 0))))] := hD
  obtain ⟨fs_121, efs_121⟩ : ∃ y, y = (fs_119.set 89 (.ref q120)) := ⟨_, rfl⟩
  rw [← efs_121] at hP hD
  have hfl_121 : fs_121.length = 172 := by rw [efs_121, List.length_set]; exact hfl_119
  have hP := hP.sub (ws' := [(h0, .inr (12, fs_121)), (q1, .inl (cI, 4000, (.inl (fun _ => 0)))), (q3, .inl (cI, 6, (.inl (fun _ => 0)))), (q5, .inl (cI, 49152, (.inl (fun _ => 0)))), (q7, .inl (cZ, 768, (.inl (fun _ => 0))))]) [0, 1, 2, 3, 4] rfl
  have hD := hD.sub (ws' := [(h0, .inr (12, fs_121)), (q1, .inl (cI, 4000, (.inl (fun _ => 0)))), (q3, .inl (cI, 6, (.inl (fun _ => 0)))), (q5, .inl (cI, 49152, (.inl (fun _ => 0)))), (q7, .inl (cZ, 768, (.inl (fun _ => 0))))]) [0, 1, 2, 3, 4] (by decide) rfl
  refine lv_aload_n hx hb dX12_init_516 rfl (lv_at hl 0 rfl) ?_
  refine lv_sipush (v := 900) hx hb dX12_init_517 (by decide) ?_
  refine nw_arr (atype := .int) (N' := 900) (a0 := (900, (.inl (fun _ => 0)))) hx hb (hts (.arrayClass .int) (List.mem_of_getElem? (i := 4) rfl)) rfl hK 0 (cI := cI) rfl hP hD hS hA (fun _ => rfl) (by decide) (by decide) (by decide) (Nat.le_of_ble_eq_true rfl) (Nat.le_of_ble_eq_true rfl) dX12_init_520 (fun q122 H hP hD hS => ?_)
  have hP : va_P (dC, dI) vwCl [(h0, .inr (12, fs_121)), (q1, .inl (cI, 4000, (.inl (fun _ => 0)))), (q3, .inl (cI, 6, (.inl (fun _ => 0)))), (q5, .inl (cI, 49152, (.inl (fun _ => 0)))), (q7, .inl (cZ, 768, (.inl (fun _ => 0)))), (q122, .inl (cI, 900, (.inl (fun _ => 0))))] H := hP
  have hD : va_D A [(h0, .inr (12, fs_121)), (q1, .inl (cI, 4000, (.inl (fun _ => 0)))), (q3, .inl (cI, 6, (.inl (fun _ => 0)))), (q5, .inl (cI, 49152, (.inl (fun _ => 0)))), (q7, .inl (cZ, 768, (.inl (fun _ => 0)))), (q122, .inl (cI, 900, (.inl (fun _ => 0))))] := hD
  refine W.widen (k := 61) (n := 668788) (by decide) (by decide) ?_
  refine va_putF (D := (dC, dI)) (ci := 12) (v := .ref q122) (ty := .array (.int)) (C := RX12) (T := TX12) (N := 172) hx hb hts inX12_init_c12 tyX12 tyX12_ok nmX12 hown hK hP hD hS 0 rfl rfl 90 (by decide) (hts (.fieldLink RX12 200 "DiskEvidenceModel" "sourceFrom" "[I") (List.mem_of_getElem? (i := 72) rfl)) (fun _ h9 => h9) rfl hin rfl (by decide +kernel) rfl rfl (by rw [hfl_121]; decide) dX12_init_522 (fun H locs hP hD hS => ?_)
  have hP : va_P (dC, dI) vwCl [(h0, .inr (12, (fs_121.set 90 (.ref q122)))), (q1, .inl (cI, 4000, (.inl (fun _ => 0)))), (q3, .inl (cI, 6, (.inl (fun _ => 0)))), (q5, .inl (cI, 49152, (.inl (fun _ => 0)))), (q7, .inl (cZ, 768, (.inl (fun _ => 0)))), (q122, .inl (cI, 900, (.inl (fun _ => 0))))] H := hP
  have hD : va_D A [(h0, .inr (12, (fs_121.set 90 (.ref q122)))), (q1, .inl (cI, 4000, (.inl (fun _ => 0)))), (q3, .inl (cI, 6, (.inl (fun _ => 0)))), (q5, .inl (cI, 49152, (.inl (fun _ => 0)))), (q7, .inl (cZ, 768, (.inl (fun _ => 0)))), (q122, .inl (cI, 900, (.inl (fun _ => 0))))] := hD
  obtain ⟨fs_123, efs_123⟩ : ∃ y, y = (fs_121.set 90 (.ref q122)) := ⟨_, rfl⟩
  rw [← efs_123] at hP hD
  have hfl_123 : fs_123.length = 172 := by rw [efs_123, List.length_set]; exact hfl_121
  have hP := hP.sub (ws' := [(h0, .inr (12, fs_123)), (q1, .inl (cI, 4000, (.inl (fun _ => 0)))), (q3, .inl (cI, 6, (.inl (fun _ => 0)))), (q5, .inl (cI, 49152, (.inl (fun _ => 0)))), (q7, .inl (cZ, 768, (.inl (fun _ => 0))))]) [0, 1, 2, 3, 4] rfl
  have hD := hD.sub (ws' := [(h0, .inr (12, fs_123)), (q1, .inl (cI, 4000, (.inl (fun _ => 0)))), (q3, .inl (cI, 6, (.inl (fun _ => 0)))), (q5, .inl (cI, 49152, (.inl (fun _ => 0)))), (q7, .inl (cZ, 768, (.inl (fun _ => 0))))]) [0, 1, 2, 3, 4] (by decide) rfl
  refine lv_aload_n hx hb dX12_init_525 rfl (lv_at hl 0 rfl) ?_
  refine lv_bipush (v := 8) hx hb dX12_init_526 (by decide) ?_
  refine nw_arr (atype := .int) (N' := 8) (a0 := (8, (.inl (fun _ => 0)))) hx hb (hts (.arrayClass .int) (List.mem_of_getElem? (i := 4) rfl)) rfl hK 0 (cI := cI) rfl hP hD hS hA (fun _ => rfl) (by decide) (by decide) (by decide) (Nat.le_of_ble_eq_true rfl) (Nat.le_of_ble_eq_true rfl) dX12_init_528 (fun q124 H hP hD hS => ?_)
  have hP : va_P (dC, dI) vwCl [(h0, .inr (12, fs_123)), (q1, .inl (cI, 4000, (.inl (fun _ => 0)))), (q3, .inl (cI, 6, (.inl (fun _ => 0)))), (q5, .inl (cI, 49152, (.inl (fun _ => 0)))), (q7, .inl (cZ, 768, (.inl (fun _ => 0)))), (q124, .inl (cI, 8, (.inl (fun _ => 0))))] H := hP
  have hD : va_D A [(h0, .inr (12, fs_123)), (q1, .inl (cI, 4000, (.inl (fun _ => 0)))), (q3, .inl (cI, 6, (.inl (fun _ => 0)))), (q5, .inl (cI, 49152, (.inl (fun _ => 0)))), (q7, .inl (cZ, 768, (.inl (fun _ => 0)))), (q124, .inl (cI, 8, (.inl (fun _ => 0))))] := hD
  refine W.widen (k := 62) (n := 668796) (by decide) (by decide) ?_
  refine va_putF (D := (dC, dI)) (ci := 12) (v := .ref q124) (ty := .array (.int)) (C := RX12) (T := TX12) (N := 172) hx hb hts inX12_init_c12 tyX12 tyX12_ok nmX12 hown hK hP hD hS 0 rfl rfl 94 (by decide) (hts (.fieldLink RX12 203 "DiskEvidenceModel" "walkFile" "[I") (List.mem_of_getElem? (i := 73) rfl)) (fun _ h9 => h9) rfl hin rfl (by decide +kernel) rfl rfl (by rw [hfl_123]; decide) dX12_init_530 (fun H locs hP hD hS => ?_)
  have hP : va_P (dC, dI) vwCl [(h0, .inr (12, (fs_123.set 94 (.ref q124)))), (q1, .inl (cI, 4000, (.inl (fun _ => 0)))), (q3, .inl (cI, 6, (.inl (fun _ => 0)))), (q5, .inl (cI, 49152, (.inl (fun _ => 0)))), (q7, .inl (cZ, 768, (.inl (fun _ => 0)))), (q124, .inl (cI, 8, (.inl (fun _ => 0))))] H := hP
  have hD : va_D A [(h0, .inr (12, (fs_123.set 94 (.ref q124)))), (q1, .inl (cI, 4000, (.inl (fun _ => 0)))), (q3, .inl (cI, 6, (.inl (fun _ => 0)))), (q5, .inl (cI, 49152, (.inl (fun _ => 0)))), (q7, .inl (cZ, 768, (.inl (fun _ => 0)))), (q124, .inl (cI, 8, (.inl (fun _ => 0))))] := hD
  obtain ⟨fs_125, efs_125⟩ : ∃ y, y = (fs_123.set 94 (.ref q124)) := ⟨_, rfl⟩
  rw [← efs_125] at hP hD
  have hfl_125 : fs_125.length = 172 := by rw [efs_125, List.length_set]; exact hfl_123
  have hP := hP.sub (ws' := [(h0, .inr (12, fs_125)), (q1, .inl (cI, 4000, (.inl (fun _ => 0)))), (q3, .inl (cI, 6, (.inl (fun _ => 0)))), (q5, .inl (cI, 49152, (.inl (fun _ => 0)))), (q7, .inl (cZ, 768, (.inl (fun _ => 0))))]) [0, 1, 2, 3, 4] rfl
  have hD := hD.sub (ws' := [(h0, .inr (12, fs_125)), (q1, .inl (cI, 4000, (.inl (fun _ => 0)))), (q3, .inl (cI, 6, (.inl (fun _ => 0)))), (q5, .inl (cI, 49152, (.inl (fun _ => 0)))), (q7, .inl (cZ, 768, (.inl (fun _ => 0))))]) [0, 1, 2, 3, 4] (by decide) rfl
  refine lv_aload_n hx hb dX12_init_533 rfl (lv_at hl 0 rfl) ?_
  refine lv_bipush (v := 8) hx hb dX12_init_534 (by decide) ?_
  refine nw_arr (atype := .int) (N' := 8) (a0 := (8, (.inl (fun _ => 0)))) hx hb (hts (.arrayClass .int) (List.mem_of_getElem? (i := 4) rfl)) rfl hK 0 (cI := cI) rfl hP hD hS hA (fun _ => rfl) (by decide) (by decide) (by decide) (Nat.le_of_ble_eq_true rfl) (Nat.le_of_ble_eq_true rfl) dX12_init_536 (fun q126 H hP hD hS => ?_)
  have hP : va_P (dC, dI) vwCl [(h0, .inr (12, fs_125)), (q1, .inl (cI, 4000, (.inl (fun _ => 0)))), (q3, .inl (cI, 6, (.inl (fun _ => 0)))), (q5, .inl (cI, 49152, (.inl (fun _ => 0)))), (q7, .inl (cZ, 768, (.inl (fun _ => 0)))), (q126, .inl (cI, 8, (.inl (fun _ => 0))))] H := hP
  have hD : va_D A [(h0, .inr (12, fs_125)), (q1, .inl (cI, 4000, (.inl (fun _ => 0)))), (q3, .inl (cI, 6, (.inl (fun _ => 0)))), (q5, .inl (cI, 49152, (.inl (fun _ => 0)))), (q7, .inl (cZ, 768, (.inl (fun _ => 0)))), (q126, .inl (cI, 8, (.inl (fun _ => 0))))] := hD
  refine W.widen (k := 63) (n := 668804) (by decide) (by decide) ?_
  refine va_putF (D := (dC, dI)) (ci := 12) (v := .ref q126) (ty := .array (.int)) (C := RX12) (T := TX12) (N := 172) hx hb hts inX12_init_c12 tyX12 tyX12_ok nmX12 hown hK hP hD hS 0 rfl rfl 95 (by decide) (hts (.fieldLink RX12 206 "DiskEvidenceModel" "walkRow" "[I") (List.mem_of_getElem? (i := 74) rfl)) (fun _ h9 => h9) rfl hin rfl (by decide +kernel) rfl rfl (by rw [hfl_125]; decide) dX12_init_538 (fun H locs hP hD hS => ?_)
  have hP : va_P (dC, dI) vwCl [(h0, .inr (12, (fs_125.set 95 (.ref q126)))), (q1, .inl (cI, 4000, (.inl (fun _ => 0)))), (q3, .inl (cI, 6, (.inl (fun _ => 0)))), (q5, .inl (cI, 49152, (.inl (fun _ => 0)))), (q7, .inl (cZ, 768, (.inl (fun _ => 0)))), (q126, .inl (cI, 8, (.inl (fun _ => 0))))] H := hP
  have hD : va_D A [(h0, .inr (12, (fs_125.set 95 (.ref q126)))), (q1, .inl (cI, 4000, (.inl (fun _ => 0)))), (q3, .inl (cI, 6, (.inl (fun _ => 0)))), (q5, .inl (cI, 49152, (.inl (fun _ => 0)))), (q7, .inl (cZ, 768, (.inl (fun _ => 0)))), (q126, .inl (cI, 8, (.inl (fun _ => 0))))] := hD
  obtain ⟨fs_127, efs_127⟩ : ∃ y, y = (fs_125.set 95 (.ref q126)) := ⟨_, rfl⟩
  rw [← efs_127] at hP hD
  have hfl_127 : fs_127.length = 172 := by rw [efs_127, List.length_set]; exact hfl_125
  have hP := hP.sub (ws' := [(h0, .inr (12, fs_127)), (q1, .inl (cI, 4000, (.inl (fun _ => 0)))), (q3, .inl (cI, 6, (.inl (fun _ => 0)))), (q5, .inl (cI, 49152, (.inl (fun _ => 0)))), (q7, .inl (cZ, 768, (.inl (fun _ => 0))))]) [0, 1, 2, 3, 4] rfl
  have hD := hD.sub (ws' := [(h0, .inr (12, fs_127)), (q1, .inl (cI, 4000, (.inl (fun _ => 0)))), (q3, .inl (cI, 6, (.inl (fun _ => 0)))), (q5, .inl (cI, 49152, (.inl (fun _ => 0)))), (q7, .inl (cZ, 768, (.inl (fun _ => 0))))]) [0, 1, 2, 3, 4] (by decide) rfl
  refine lv_aload_n hx hb dX12_init_541 rfl (lv_at hl 0 rfl) ?_
  refine lv_bipush (v := 8) hx hb dX12_init_542 (by decide) ?_
  refine nw_arr (atype := .int) (N' := 8) (a0 := (8, (.inl (fun _ => 0)))) hx hb (hts (.arrayClass .int) (List.mem_of_getElem? (i := 4) rfl)) rfl hK 0 (cI := cI) rfl hP hD hS hA (fun _ => rfl) (by decide) (by decide) (by decide) (Nat.le_of_ble_eq_true rfl) (Nat.le_of_ble_eq_true rfl) dX12_init_544 (fun q128 H hP hD hS => ?_)
  have hP : va_P (dC, dI) vwCl [(h0, .inr (12, fs_127)), (q1, .inl (cI, 4000, (.inl (fun _ => 0)))), (q3, .inl (cI, 6, (.inl (fun _ => 0)))), (q5, .inl (cI, 49152, (.inl (fun _ => 0)))), (q7, .inl (cZ, 768, (.inl (fun _ => 0)))), (q128, .inl (cI, 8, (.inl (fun _ => 0))))] H := hP
  have hD : va_D A [(h0, .inr (12, fs_127)), (q1, .inl (cI, 4000, (.inl (fun _ => 0)))), (q3, .inl (cI, 6, (.inl (fun _ => 0)))), (q5, .inl (cI, 49152, (.inl (fun _ => 0)))), (q7, .inl (cZ, 768, (.inl (fun _ => 0)))), (q128, .inl (cI, 8, (.inl (fun _ => 0))))] := hD
  refine W.widen (k := 64) (n := 668812) (by decide) (by decide) ?_
  refine va_putF (D := (dC, dI)) (ci := 12) (v := .ref q128) (ty := .array (.int)) (C := RX12) (T := TX12) (N := 172) hx hb hts inX12_init_c12 tyX12 tyX12_ok nmX12 hown hK hP hD hS 0 rfl rfl 96 (by decide) (hts (.fieldLink RX12 209 "DiskEvidenceModel" "walkNode" "[I") (List.mem_of_getElem? (i := 75) rfl)) (fun _ h9 => h9) rfl hin rfl (by decide +kernel) rfl rfl (by rw [hfl_127]; decide) dX12_init_546 (fun H locs hP hD hS => ?_)
  have hP : va_P (dC, dI) vwCl [(h0, .inr (12, (fs_127.set 96 (.ref q128)))), (q1, .inl (cI, 4000, (.inl (fun _ => 0)))), (q3, .inl (cI, 6, (.inl (fun _ => 0)))), (q5, .inl (cI, 49152, (.inl (fun _ => 0)))), (q7, .inl (cZ, 768, (.inl (fun _ => 0)))), (q128, .inl (cI, 8, (.inl (fun _ => 0))))] H := hP
  have hD : va_D A [(h0, .inr (12, (fs_127.set 96 (.ref q128)))), (q1, .inl (cI, 4000, (.inl (fun _ => 0)))), (q3, .inl (cI, 6, (.inl (fun _ => 0)))), (q5, .inl (cI, 49152, (.inl (fun _ => 0)))), (q7, .inl (cZ, 768, (.inl (fun _ => 0)))), (q128, .inl (cI, 8, (.inl (fun _ => 0))))] := hD
  obtain ⟨fs_129, efs_129⟩ : ∃ y, y = (fs_127.set 96 (.ref q128)) := ⟨_, rfl⟩
  rw [← efs_129] at hP hD
  have hfl_129 : fs_129.length = 172 := by rw [efs_129, List.length_set]; exact hfl_127
  have hP := hP.sub (ws' := [(h0, .inr (12, fs_129)), (q1, .inl (cI, 4000, (.inl (fun _ => 0)))), (q3, .inl (cI, 6, (.inl (fun _ => 0)))), (q5, .inl (cI, 49152, (.inl (fun _ => 0)))), (q7, .inl (cZ, 768, (.inl (fun _ => 0))))]) [0, 1, 2, 3, 4] rfl
  have hD := hD.sub (ws' := [(h0, .inr (12, fs_129)), (q1, .inl (cI, 4000, (.inl (fun _ => 0)))), (q3, .inl (cI, 6, (.inl (fun _ => 0)))), (q5, .inl (cI, 49152, (.inl (fun _ => 0)))), (q7, .inl (cZ, 768, (.inl (fun _ => 0))))]) [0, 1, 2, 3, 4] (by decide) rfl
  refine lv_aload_n hx hb dX12_init_549 rfl (lv_at hl 0 rfl) ?_
  refine lv_sipush (v := 600) hx hb dX12_init_550 (by decide) ?_
  refine nw_arr (atype := .int) (N' := 600) (a0 := (600, (.inl (fun _ => 0)))) hx hb (hts (.arrayClass .int) (List.mem_of_getElem? (i := 4) rfl)) rfl hK 0 (cI := cI) rfl hP hD hS hA (fun _ => rfl) (by decide) (by decide) (by decide) (Nat.le_of_ble_eq_true rfl) (Nat.le_of_ble_eq_true rfl) dX12_init_553 (fun q130 H hP hD hS => ?_)
  have hP : va_P (dC, dI) vwCl [(h0, .inr (12, fs_129)), (q1, .inl (cI, 4000, (.inl (fun _ => 0)))), (q3, .inl (cI, 6, (.inl (fun _ => 0)))), (q5, .inl (cI, 49152, (.inl (fun _ => 0)))), (q7, .inl (cZ, 768, (.inl (fun _ => 0)))), (q130, .inl (cI, 600, (.inl (fun _ => 0))))] H := hP
  have hD : va_D A [(h0, .inr (12, fs_129)), (q1, .inl (cI, 4000, (.inl (fun _ => 0)))), (q3, .inl (cI, 6, (.inl (fun _ => 0)))), (q5, .inl (cI, 49152, (.inl (fun _ => 0)))), (q7, .inl (cZ, 768, (.inl (fun _ => 0)))), (q130, .inl (cI, 600, (.inl (fun _ => 0))))] := hD
  refine W.widen (k := 65) (n := 669412) (by decide) (by decide) ?_
  refine va_putF (D := (dC, dI)) (ci := 12) (v := .ref q130) (ty := .array (.int)) (C := RX12) (T := TX12) (N := 172) hx hb hts inX12_init_c12 tyX12 tyX12_ok nmX12 hown hK hP hD hS 0 rfl rfl 98 (by decide) (hts (.fieldLink RX12 212 "DiskEvidenceModel" "erasedRow" "[I") (List.mem_of_getElem? (i := 76) rfl)) (fun _ h9 => h9) rfl hin rfl (by decide +kernel) rfl rfl (by rw [hfl_129]; decide) dX12_init_555 (fun H locs hP hD hS => ?_)
  have hP : va_P (dC, dI) vwCl [(h0, .inr (12, (fs_129.set 98 (.ref q130)))), (q1, .inl (cI, 4000, (.inl (fun _ => 0)))), (q3, .inl (cI, 6, (.inl (fun _ => 0)))), (q5, .inl (cI, 49152, (.inl (fun _ => 0)))), (q7, .inl (cZ, 768, (.inl (fun _ => 0)))), (q130, .inl (cI, 600, (.inl (fun _ => 0))))] H := hP
  have hD : va_D A [(h0, .inr (12, (fs_129.set 98 (.ref q130)))), (q1, .inl (cI, 4000, (.inl (fun _ => 0)))), (q3, .inl (cI, 6, (.inl (fun _ => 0)))), (q5, .inl (cI, 49152, (.inl (fun _ => 0)))), (q7, .inl (cZ, 768, (.inl (fun _ => 0)))), (q130, .inl (cI, 600, (.inl (fun _ => 0))))] := hD
  obtain ⟨fs_131, efs_131⟩ : ∃ y, y = (fs_129.set 98 (.ref q130)) := ⟨_, rfl⟩
  rw [← efs_131] at hP hD
  have hfl_131 : fs_131.length = 172 := by rw [efs_131, List.length_set]; exact hfl_129
  have hP := hP.sub (ws' := [(h0, .inr (12, fs_131)), (q1, .inl (cI, 4000, (.inl (fun _ => 0)))), (q3, .inl (cI, 6, (.inl (fun _ => 0)))), (q5, .inl (cI, 49152, (.inl (fun _ => 0)))), (q7, .inl (cZ, 768, (.inl (fun _ => 0))))]) [0, 1, 2, 3, 4] rfl
  have hD := hD.sub (ws' := [(h0, .inr (12, fs_131)), (q1, .inl (cI, 4000, (.inl (fun _ => 0)))), (q3, .inl (cI, 6, (.inl (fun _ => 0)))), (q5, .inl (cI, 49152, (.inl (fun _ => 0)))), (q7, .inl (cZ, 768, (.inl (fun _ => 0))))]) [0, 1, 2, 3, 4] (by decide) rfl
  refine lv_aload_n hx hb dX12_init_558 rfl (lv_at hl 0 rfl) ?_
  refine lv_sipush (v := 600) hx hb dX12_init_559 (by decide) ?_
  refine nw_arr (atype := .int) (N' := 600) (a0 := (600, (.inl (fun _ => 0)))) hx hb (hts (.arrayClass .int) (List.mem_of_getElem? (i := 4) rfl)) rfl hK 0 (cI := cI) rfl hP hD hS hA (fun _ => rfl) (by decide) (by decide) (by decide) (Nat.le_of_ble_eq_true rfl) (Nat.le_of_ble_eq_true rfl) dX12_init_562 (fun q132 H hP hD hS => ?_)
  have hP : va_P (dC, dI) vwCl [(h0, .inr (12, fs_131)), (q1, .inl (cI, 4000, (.inl (fun _ => 0)))), (q3, .inl (cI, 6, (.inl (fun _ => 0)))), (q5, .inl (cI, 49152, (.inl (fun _ => 0)))), (q7, .inl (cZ, 768, (.inl (fun _ => 0)))), (q132, .inl (cI, 600, (.inl (fun _ => 0))))] H := hP
  have hD : va_D A [(h0, .inr (12, fs_131)), (q1, .inl (cI, 4000, (.inl (fun _ => 0)))), (q3, .inl (cI, 6, (.inl (fun _ => 0)))), (q5, .inl (cI, 49152, (.inl (fun _ => 0)))), (q7, .inl (cZ, 768, (.inl (fun _ => 0)))), (q132, .inl (cI, 600, (.inl (fun _ => 0))))] := hD
  refine W.widen (k := 66) (n := 670012) (by decide) (by decide) ?_
  refine va_putF (D := (dC, dI)) (ci := 12) (v := .ref q132) (ty := .array (.int)) (C := RX12) (T := TX12) (N := 172) hx hb hts inX12_init_c12 tyX12 tyX12_ok nmX12 hown hK hP hD hS 0 rfl rfl 99 (by decide) (hts (.fieldLink RX12 215 "DiskEvidenceModel" "erasedParent" "[I") (List.mem_of_getElem? (i := 77) rfl)) (fun _ h9 => h9) rfl hin rfl (by decide +kernel) rfl rfl (by rw [hfl_131]; decide) dX12_init_564 (fun H locs hP hD hS => ?_)
  have hP : va_P (dC, dI) vwCl [(h0, .inr (12, (fs_131.set 99 (.ref q132)))), (q1, .inl (cI, 4000, (.inl (fun _ => 0)))), (q3, .inl (cI, 6, (.inl (fun _ => 0)))), (q5, .inl (cI, 49152, (.inl (fun _ => 0)))), (q7, .inl (cZ, 768, (.inl (fun _ => 0)))), (q132, .inl (cI, 600, (.inl (fun _ => 0))))] H := hP
  have hD : va_D A [(h0, .inr (12, (fs_131.set 99 (.ref q132)))), (q1, .inl (cI, 4000, (.inl (fun _ => 0)))), (q3, .inl (cI, 6, (.inl (fun _ => 0)))), (q5, .inl (cI, 49152, (.inl (fun _ => 0)))), (q7, .inl (cZ, 768, (.inl (fun _ => 0)))), (q132, .inl (cI, 600, (.inl (fun _ => 0))))] := hD
  obtain ⟨fs_133, efs_133⟩ : ∃ y, y = (fs_131.set 99 (.ref q132)) := ⟨_, rfl⟩
  rw [← efs_133] at hP hD
  have hfl_133 : fs_133.length = 172 := by rw [efs_133, List.length_set]; exact hfl_131
  have hP := hP.sub (ws' := [(h0, .inr (12, fs_133)), (q1, .inl (cI, 4000, (.inl (fun _ => 0)))), (q3, .inl (cI, 6, (.inl (fun _ => 0)))), (q5, .inl (cI, 49152, (.inl (fun _ => 0)))), (q7, .inl (cZ, 768, (.inl (fun _ => 0))))]) [0, 1, 2, 3, 4] rfl
  have hD := hD.sub (ws' := [(h0, .inr (12, fs_133)), (q1, .inl (cI, 4000, (.inl (fun _ => 0)))), (q3, .inl (cI, 6, (.inl (fun _ => 0)))), (q5, .inl (cI, 49152, (.inl (fun _ => 0)))), (q7, .inl (cZ, 768, (.inl (fun _ => 0))))]) [0, 1, 2, 3, 4] (by decide) rfl
  refine lv_aload_n hx hb dX12_init_567 rfl (lv_at hl 0 rfl) ?_
  refine lv_sipush (v := 600) hx hb dX12_init_568 (by decide) ?_
  refine nw_arr (atype := .int) (N' := 600) (a0 := (600, (.inl (fun _ => 0)))) hx hb (hts (.arrayClass .int) (List.mem_of_getElem? (i := 4) rfl)) rfl hK 0 (cI := cI) rfl hP hD hS hA (fun _ => rfl) (by decide) (by decide) (by decide) (Nat.le_of_ble_eq_true rfl) (Nat.le_of_ble_eq_true rfl) dX12_init_571 (fun q134 H hP hD hS => ?_)
  have hP : va_P (dC, dI) vwCl [(h0, .inr (12, fs_133)), (q1, .inl (cI, 4000, (.inl (fun _ => 0)))), (q3, .inl (cI, 6, (.inl (fun _ => 0)))), (q5, .inl (cI, 49152, (.inl (fun _ => 0)))), (q7, .inl (cZ, 768, (.inl (fun _ => 0)))), (q134, .inl (cI, 600, (.inl (fun _ => 0))))] H := hP
  have hD : va_D A [(h0, .inr (12, fs_133)), (q1, .inl (cI, 4000, (.inl (fun _ => 0)))), (q3, .inl (cI, 6, (.inl (fun _ => 0)))), (q5, .inl (cI, 49152, (.inl (fun _ => 0)))), (q7, .inl (cZ, 768, (.inl (fun _ => 0)))), (q134, .inl (cI, 600, (.inl (fun _ => 0))))] := hD
  refine W.widen (k := 67) (n := 670612) (by decide) (by decide) ?_
  refine va_putF (D := (dC, dI)) (ci := 12) (v := .ref q134) (ty := .array (.int)) (C := RX12) (T := TX12) (N := 172) hx hb hts inX12_init_c12 tyX12 tyX12_ok nmX12 hown hK hP hD hS 0 rfl rfl 100 (by decide) (hts (.fieldLink RX12 218 "DiskEvidenceModel" "erasedDepth" "[I") (List.mem_of_getElem? (i := 78) rfl)) (fun _ h9 => h9) rfl hin rfl (by decide +kernel) rfl rfl (by rw [hfl_133]; decide) dX12_init_573 (fun H locs hP hD hS => ?_)
  have hP : va_P (dC, dI) vwCl [(h0, .inr (12, (fs_133.set 100 (.ref q134)))), (q1, .inl (cI, 4000, (.inl (fun _ => 0)))), (q3, .inl (cI, 6, (.inl (fun _ => 0)))), (q5, .inl (cI, 49152, (.inl (fun _ => 0)))), (q7, .inl (cZ, 768, (.inl (fun _ => 0)))), (q134, .inl (cI, 600, (.inl (fun _ => 0))))] H := hP
  have hD : va_D A [(h0, .inr (12, (fs_133.set 100 (.ref q134)))), (q1, .inl (cI, 4000, (.inl (fun _ => 0)))), (q3, .inl (cI, 6, (.inl (fun _ => 0)))), (q5, .inl (cI, 49152, (.inl (fun _ => 0)))), (q7, .inl (cZ, 768, (.inl (fun _ => 0)))), (q134, .inl (cI, 600, (.inl (fun _ => 0))))] := hD
  obtain ⟨fs_135, efs_135⟩ : ∃ y, y = (fs_133.set 100 (.ref q134)) := ⟨_, rfl⟩
  rw [← efs_135] at hP hD
  have hfl_135 : fs_135.length = 172 := by rw [efs_135, List.length_set]; exact hfl_133
  have hP := hP.sub (ws' := [(h0, .inr (12, fs_135)), (q1, .inl (cI, 4000, (.inl (fun _ => 0)))), (q3, .inl (cI, 6, (.inl (fun _ => 0)))), (q5, .inl (cI, 49152, (.inl (fun _ => 0)))), (q7, .inl (cZ, 768, (.inl (fun _ => 0))))]) [0, 1, 2, 3, 4] rfl
  have hD := hD.sub (ws' := [(h0, .inr (12, fs_135)), (q1, .inl (cI, 4000, (.inl (fun _ => 0)))), (q3, .inl (cI, 6, (.inl (fun _ => 0)))), (q5, .inl (cI, 49152, (.inl (fun _ => 0)))), (q7, .inl (cZ, 768, (.inl (fun _ => 0))))]) [0, 1, 2, 3, 4] (by decide) rfl
  refine lv_aload_n hx hb dX12_init_576 rfl (lv_at hl 0 rfl) ?_
  refine lv_bipush (v := 66) hx hb dX12_init_577 (by decide) ?_
  refine nw_arr (atype := .boolean) (N' := 66) (a0 := (66, (.inl (fun _ => 0)))) hx hb (hts (.arrayClass .boolean) (List.mem_of_getElem? (i := 9) rfl)) rfl hK 2 (cI := cZ) rfl hP hD hS hA (fun _ => rfl) (by decide) (by decide) (by decide) (Nat.le_of_ble_eq_true rfl) (Nat.le_of_ble_eq_true rfl) dX12_init_579 (fun q136 H hP hD hS => ?_)
  have hP : va_P (dC, dI) vwCl [(h0, .inr (12, fs_135)), (q1, .inl (cI, 4000, (.inl (fun _ => 0)))), (q3, .inl (cI, 6, (.inl (fun _ => 0)))), (q5, .inl (cI, 49152, (.inl (fun _ => 0)))), (q7, .inl (cZ, 768, (.inl (fun _ => 0)))), (q136, .inl (cZ, 66, (.inl (fun _ => 0))))] H := hP
  have hD : va_D A [(h0, .inr (12, fs_135)), (q1, .inl (cI, 4000, (.inl (fun _ => 0)))), (q3, .inl (cI, 6, (.inl (fun _ => 0)))), (q5, .inl (cI, 49152, (.inl (fun _ => 0)))), (q7, .inl (cZ, 768, (.inl (fun _ => 0)))), (q136, .inl (cZ, 66, (.inl (fun _ => 0))))] := hD
  refine W.widen (k := 68) (n := 670678) (by decide) (by decide) ?_
  refine va_putF (D := (dC, dI)) (ci := 12) (v := .ref q136) (ty := .array (.boolean)) (C := RX12) (T := TX12) (N := 172) hx hb hts inX12_init_c12 tyX12 tyX12_ok nmX12 hown hK hP hD hS 0 rfl rfl 101 (by decide) (hts (.fieldLink RX12 221 "DiskEvidenceModel" "isWalked" "[Z") (List.mem_of_getElem? (i := 79) rfl)) (fun _ h9 => h9) rfl hin rfl (by decide +kernel) rfl rfl (by rw [hfl_135]; decide) dX12_init_581 (fun H locs hP hD hS => ?_)
  have hP : va_P (dC, dI) vwCl [(h0, .inr (12, (fs_135.set 101 (.ref q136)))), (q1, .inl (cI, 4000, (.inl (fun _ => 0)))), (q3, .inl (cI, 6, (.inl (fun _ => 0)))), (q5, .inl (cI, 49152, (.inl (fun _ => 0)))), (q7, .inl (cZ, 768, (.inl (fun _ => 0)))), (q136, .inl (cZ, 66, (.inl (fun _ => 0))))] H := hP
  have hD : va_D A [(h0, .inr (12, (fs_135.set 101 (.ref q136)))), (q1, .inl (cI, 4000, (.inl (fun _ => 0)))), (q3, .inl (cI, 6, (.inl (fun _ => 0)))), (q5, .inl (cI, 49152, (.inl (fun _ => 0)))), (q7, .inl (cZ, 768, (.inl (fun _ => 0)))), (q136, .inl (cZ, 66, (.inl (fun _ => 0))))] := hD
  obtain ⟨fs_137, efs_137⟩ : ∃ y, y = (fs_135.set 101 (.ref q136)) := ⟨_, rfl⟩
  rw [← efs_137] at hP hD
  have hfl_137 : fs_137.length = 172 := by rw [efs_137, List.length_set]; exact hfl_135
  have hP := hP.sub (ws' := [(h0, .inr (12, fs_137)), (q1, .inl (cI, 4000, (.inl (fun _ => 0)))), (q3, .inl (cI, 6, (.inl (fun _ => 0)))), (q5, .inl (cI, 49152, (.inl (fun _ => 0)))), (q7, .inl (cZ, 768, (.inl (fun _ => 0))))]) [0, 1, 2, 3, 4] rfl
  have hD := hD.sub (ws' := [(h0, .inr (12, fs_137)), (q1, .inl (cI, 4000, (.inl (fun _ => 0)))), (q3, .inl (cI, 6, (.inl (fun _ => 0)))), (q5, .inl (cI, 49152, (.inl (fun _ => 0)))), (q7, .inl (cZ, 768, (.inl (fun _ => 0))))]) [0, 1, 2, 3, 4] (by decide) rfl
  refine lv_aload_n hx hb dX12_init_584 rfl (lv_at hl 0 rfl) ?_
  refine lv_sipush (v := 256) hx hb dX12_init_585 (by decide) ?_
  refine nw_arr (atype := .int) (N' := 256) (a0 := (256, (.inl (fun _ => 0)))) hx hb (hts (.arrayClass .int) (List.mem_of_getElem? (i := 4) rfl)) rfl hK 0 (cI := cI) rfl hP hD hS hA (fun _ => rfl) (by decide) (by decide) (by decide) (Nat.le_of_ble_eq_true rfl) (Nat.le_of_ble_eq_true rfl) dX12_init_588 (fun q138 H hP hD hS => ?_)
  have hP : va_P (dC, dI) vwCl [(h0, .inr (12, fs_137)), (q1, .inl (cI, 4000, (.inl (fun _ => 0)))), (q3, .inl (cI, 6, (.inl (fun _ => 0)))), (q5, .inl (cI, 49152, (.inl (fun _ => 0)))), (q7, .inl (cZ, 768, (.inl (fun _ => 0)))), (q138, .inl (cI, 256, (.inl (fun _ => 0))))] H := hP
  have hD : va_D A [(h0, .inr (12, fs_137)), (q1, .inl (cI, 4000, (.inl (fun _ => 0)))), (q3, .inl (cI, 6, (.inl (fun _ => 0)))), (q5, .inl (cI, 49152, (.inl (fun _ => 0)))), (q7, .inl (cZ, 768, (.inl (fun _ => 0)))), (q138, .inl (cI, 256, (.inl (fun _ => 0))))] := hD
  refine W.widen (k := 69) (n := 670934) (by decide) (by decide) ?_
  refine va_putF (D := (dC, dI)) (ci := 12) (v := .ref q138) (ty := .array (.int)) (C := RX12) (T := TX12) (N := 172) hx hb hts inX12_init_c12 tyX12 tyX12_ok nmX12 hown hK hP hD hS 0 rfl rfl 103 (by decide) (hts (.fieldLink RX12 224 "DiskEvidenceModel" "entryAt" "[I") (List.mem_of_getElem? (i := 80) rfl)) (fun _ h9 => h9) rfl hin rfl (by decide +kernel) rfl rfl (by rw [hfl_137]; decide) dX12_init_590 (fun H locs hP hD hS => ?_)
  have hP : va_P (dC, dI) vwCl [(h0, .inr (12, (fs_137.set 103 (.ref q138)))), (q1, .inl (cI, 4000, (.inl (fun _ => 0)))), (q3, .inl (cI, 6, (.inl (fun _ => 0)))), (q5, .inl (cI, 49152, (.inl (fun _ => 0)))), (q7, .inl (cZ, 768, (.inl (fun _ => 0)))), (q138, .inl (cI, 256, (.inl (fun _ => 0))))] H := hP
  have hD : va_D A [(h0, .inr (12, (fs_137.set 103 (.ref q138)))), (q1, .inl (cI, 4000, (.inl (fun _ => 0)))), (q3, .inl (cI, 6, (.inl (fun _ => 0)))), (q5, .inl (cI, 49152, (.inl (fun _ => 0)))), (q7, .inl (cZ, 768, (.inl (fun _ => 0)))), (q138, .inl (cI, 256, (.inl (fun _ => 0))))] := hD
  obtain ⟨fs_139, efs_139⟩ : ∃ y, y = (fs_137.set 103 (.ref q138)) := ⟨_, rfl⟩
  rw [← efs_139] at hP hD
  have hfl_139 : fs_139.length = 172 := by rw [efs_139, List.length_set]; exact hfl_137
  have hP := hP.sub (ws' := [(h0, .inr (12, fs_139)), (q1, .inl (cI, 4000, (.inl (fun _ => 0)))), (q3, .inl (cI, 6, (.inl (fun _ => 0)))), (q5, .inl (cI, 49152, (.inl (fun _ => 0)))), (q7, .inl (cZ, 768, (.inl (fun _ => 0))))]) [0, 1, 2, 3, 4] rfl
  have hD := hD.sub (ws' := [(h0, .inr (12, fs_139)), (q1, .inl (cI, 4000, (.inl (fun _ => 0)))), (q3, .inl (cI, 6, (.inl (fun _ => 0)))), (q5, .inl (cI, 49152, (.inl (fun _ => 0)))), (q7, .inl (cZ, 768, (.inl (fun _ => 0))))]) [0, 1, 2, 3, 4] (by decide) rfl
  refine lv_aload_n hx hb dX12_init_593 rfl (lv_at hl 0 rfl) ?_
  refine lv_sipush (v := 256) hx hb dX12_init_594 (by decide) ?_
  refine nw_arr (atype := .int) (N' := 256) (a0 := (256, (.inl (fun _ => 0)))) hx hb (hts (.arrayClass .int) (List.mem_of_getElem? (i := 4) rfl)) rfl hK 0 (cI := cI) rfl hP hD hS hA (fun _ => rfl) (by decide) (by decide) (by decide) (Nat.le_of_ble_eq_true rfl) (Nat.le_of_ble_eq_true rfl) dX12_init_597 (fun q140 H hP hD hS => ?_)
  have hP : va_P (dC, dI) vwCl [(h0, .inr (12, fs_139)), (q1, .inl (cI, 4000, (.inl (fun _ => 0)))), (q3, .inl (cI, 6, (.inl (fun _ => 0)))), (q5, .inl (cI, 49152, (.inl (fun _ => 0)))), (q7, .inl (cZ, 768, (.inl (fun _ => 0)))), (q140, .inl (cI, 256, (.inl (fun _ => 0))))] H := hP
  have hD : va_D A [(h0, .inr (12, fs_139)), (q1, .inl (cI, 4000, (.inl (fun _ => 0)))), (q3, .inl (cI, 6, (.inl (fun _ => 0)))), (q5, .inl (cI, 49152, (.inl (fun _ => 0)))), (q7, .inl (cZ, 768, (.inl (fun _ => 0)))), (q140, .inl (cI, 256, (.inl (fun _ => 0))))] := hD
  refine W.widen (k := 70) (n := 671190) (by decide) (by decide) ?_
  refine va_putF (D := (dC, dI)) (ci := 12) (v := .ref q140) (ty := .array (.int)) (C := RX12) (T := TX12) (N := 172) hx hb hts inX12_init_c12 tyX12 tyX12_ok nmX12 hown hK hP hD hS 0 rfl rfl 104 (by decide) (hts (.fieldLink RX12 227 "DiskEvidenceModel" "entryHas" "[I") (List.mem_of_getElem? (i := 81) rfl)) (fun _ h9 => h9) rfl hin rfl (by decide +kernel) rfl rfl (by rw [hfl_139]; decide) dX12_init_599 (fun H locs hP hD hS => ?_)
  have hP : va_P (dC, dI) vwCl [(h0, .inr (12, (fs_139.set 104 (.ref q140)))), (q1, .inl (cI, 4000, (.inl (fun _ => 0)))), (q3, .inl (cI, 6, (.inl (fun _ => 0)))), (q5, .inl (cI, 49152, (.inl (fun _ => 0)))), (q7, .inl (cZ, 768, (.inl (fun _ => 0)))), (q140, .inl (cI, 256, (.inl (fun _ => 0))))] H := hP
  have hD : va_D A [(h0, .inr (12, (fs_139.set 104 (.ref q140)))), (q1, .inl (cI, 4000, (.inl (fun _ => 0)))), (q3, .inl (cI, 6, (.inl (fun _ => 0)))), (q5, .inl (cI, 49152, (.inl (fun _ => 0)))), (q7, .inl (cZ, 768, (.inl (fun _ => 0)))), (q140, .inl (cI, 256, (.inl (fun _ => 0))))] := hD
  obtain ⟨fs_141, efs_141⟩ : ∃ y, y = (fs_139.set 104 (.ref q140)) := ⟨_, rfl⟩
  rw [← efs_141] at hP hD
  have hfl_141 : fs_141.length = 172 := by rw [efs_141, List.length_set]; exact hfl_139
  have hP := hP.sub (ws' := [(h0, .inr (12, fs_141)), (q1, .inl (cI, 4000, (.inl (fun _ => 0)))), (q3, .inl (cI, 6, (.inl (fun _ => 0)))), (q5, .inl (cI, 49152, (.inl (fun _ => 0)))), (q7, .inl (cZ, 768, (.inl (fun _ => 0))))]) [0, 1, 2, 3, 4] rfl
  have hD := hD.sub (ws' := [(h0, .inr (12, fs_141)), (q1, .inl (cI, 4000, (.inl (fun _ => 0)))), (q3, .inl (cI, 6, (.inl (fun _ => 0)))), (q5, .inl (cI, 49152, (.inl (fun _ => 0)))), (q7, .inl (cZ, 768, (.inl (fun _ => 0))))]) [0, 1, 2, 3, 4] (by decide) rfl
  refine lv_aload_n hx hb dX12_init_602 rfl (lv_at hl 0 rfl) ?_
  refine lv_sipush (v := 16384) hx hb dX12_init_603 (by decide) ?_
  refine nw_arr (atype := .int) (N' := 16384) (a0 := (16384, (.inl (fun _ => 0)))) hx hb (hts (.arrayClass .int) (List.mem_of_getElem? (i := 4) rfl)) rfl hK 0 (cI := cI) rfl hP hD hS hA (fun _ => rfl) (by decide) (by decide) (by decide) (Nat.le_of_ble_eq_true rfl) (Nat.le_of_ble_eq_true rfl) dX12_init_606 (fun q142 H hP hD hS => ?_)
  have hP : va_P (dC, dI) vwCl [(h0, .inr (12, fs_141)), (q1, .inl (cI, 4000, (.inl (fun _ => 0)))), (q3, .inl (cI, 6, (.inl (fun _ => 0)))), (q5, .inl (cI, 49152, (.inl (fun _ => 0)))), (q7, .inl (cZ, 768, (.inl (fun _ => 0)))), (q142, .inl (cI, 16384, (.inl (fun _ => 0))))] H := hP
  have hD : va_D A [(h0, .inr (12, fs_141)), (q1, .inl (cI, 4000, (.inl (fun _ => 0)))), (q3, .inl (cI, 6, (.inl (fun _ => 0)))), (q5, .inl (cI, 49152, (.inl (fun _ => 0)))), (q7, .inl (cZ, 768, (.inl (fun _ => 0)))), (q142, .inl (cI, 16384, (.inl (fun _ => 0))))] := hD
  refine W.widen (k := 71) (n := 687574) (by decide) (by decide) ?_
  refine va_putF (D := (dC, dI)) (ci := 12) (v := .ref q142) (ty := .array (.int)) (C := RX12) (T := TX12) (N := 172) hx hb hts inX12_init_c12 tyX12 tyX12_ok nmX12 hown hK hP hD hS 0 rfl rfl 105 (by decide) (hts (.fieldLink RX12 230 "DiskEvidenceModel" "row" "[I") (List.mem_of_getElem? (i := 82) rfl)) (fun _ h9 => h9) rfl hin rfl (by decide +kernel) rfl rfl (by rw [hfl_141]; decide) dX12_init_608 (fun H locs hP hD hS => ?_)
  have hP : va_P (dC, dI) vwCl [(h0, .inr (12, (fs_141.set 105 (.ref q142)))), (q1, .inl (cI, 4000, (.inl (fun _ => 0)))), (q3, .inl (cI, 6, (.inl (fun _ => 0)))), (q5, .inl (cI, 49152, (.inl (fun _ => 0)))), (q7, .inl (cZ, 768, (.inl (fun _ => 0)))), (q142, .inl (cI, 16384, (.inl (fun _ => 0))))] H := hP
  have hD : va_D A [(h0, .inr (12, (fs_141.set 105 (.ref q142)))), (q1, .inl (cI, 4000, (.inl (fun _ => 0)))), (q3, .inl (cI, 6, (.inl (fun _ => 0)))), (q5, .inl (cI, 49152, (.inl (fun _ => 0)))), (q7, .inl (cZ, 768, (.inl (fun _ => 0)))), (q142, .inl (cI, 16384, (.inl (fun _ => 0))))] := hD
  obtain ⟨fs_143, efs_143⟩ : ∃ y, y = (fs_141.set 105 (.ref q142)) := ⟨_, rfl⟩
  rw [← efs_143] at hP hD
  have hfl_143 : fs_143.length = 172 := by rw [efs_143, List.length_set]; exact hfl_141
  have hP := hP.sub (ws' := [(h0, .inr (12, fs_143)), (q1, .inl (cI, 4000, (.inl (fun _ => 0)))), (q3, .inl (cI, 6, (.inl (fun _ => 0)))), (q5, .inl (cI, 49152, (.inl (fun _ => 0)))), (q7, .inl (cZ, 768, (.inl (fun _ => 0))))]) [0, 1, 2, 3, 4] rfl
  have hD := hD.sub (ws' := [(h0, .inr (12, fs_143)), (q1, .inl (cI, 4000, (.inl (fun _ => 0)))), (q3, .inl (cI, 6, (.inl (fun _ => 0)))), (q5, .inl (cI, 49152, (.inl (fun _ => 0)))), (q7, .inl (cZ, 768, (.inl (fun _ => 0))))]) [0, 1, 2, 3, 4] (by decide) rfl
  refine lv_aload_n hx hb dX12_init_611 rfl (lv_at hl 0 rfl) ?_
  refine lv_bipush (v := 8) hx hb dX12_init_612 (by decide) ?_
  refine nw_arr (atype := .int) (N' := 8) (a0 := (8, (.inl (fun _ => 0)))) hx hb (hts (.arrayClass .int) (List.mem_of_getElem? (i := 4) rfl)) rfl hK 0 (cI := cI) rfl hP hD hS hA (fun _ => rfl) (by decide) (by decide) (by decide) (Nat.le_of_ble_eq_true rfl) (Nat.le_of_ble_eq_true rfl) dX12_init_614 (fun q144 H hP hD hS => ?_)
  have hP : va_P (dC, dI) vwCl [(h0, .inr (12, fs_143)), (q1, .inl (cI, 4000, (.inl (fun _ => 0)))), (q3, .inl (cI, 6, (.inl (fun _ => 0)))), (q5, .inl (cI, 49152, (.inl (fun _ => 0)))), (q7, .inl (cZ, 768, (.inl (fun _ => 0)))), (q144, .inl (cI, 8, (.inl (fun _ => 0))))] H := hP
  have hD : va_D A [(h0, .inr (12, fs_143)), (q1, .inl (cI, 4000, (.inl (fun _ => 0)))), (q3, .inl (cI, 6, (.inl (fun _ => 0)))), (q5, .inl (cI, 49152, (.inl (fun _ => 0)))), (q7, .inl (cZ, 768, (.inl (fun _ => 0)))), (q144, .inl (cI, 8, (.inl (fun _ => 0))))] := hD
  refine W.widen (k := 72) (n := 687582) (by decide) (by decide) ?_
  refine va_putF (D := (dC, dI)) (ci := 12) (v := .ref q144) (ty := .array (.int)) (C := RX12) (T := TX12) (N := 172) hx hb hts inX12_init_c12 tyX12 tyX12_ok nmX12 hown hK hP hD hS 0 rfl rfl 111 (by decide) (hts (.fieldLink RX12 233 "DiskEvidenceModel" "openTree" "[I") (List.mem_of_getElem? (i := 83) rfl)) (fun _ h9 => h9) rfl hin rfl (by decide +kernel) rfl rfl (by rw [hfl_143]; decide) dX12_init_616 (fun H locs hP hD hS => ?_)
  have hP : va_P (dC, dI) vwCl [(h0, .inr (12, (fs_143.set 111 (.ref q144)))), (q1, .inl (cI, 4000, (.inl (fun _ => 0)))), (q3, .inl (cI, 6, (.inl (fun _ => 0)))), (q5, .inl (cI, 49152, (.inl (fun _ => 0)))), (q7, .inl (cZ, 768, (.inl (fun _ => 0)))), (q144, .inl (cI, 8, (.inl (fun _ => 0))))] H := hP
  have hD : va_D A [(h0, .inr (12, (fs_143.set 111 (.ref q144)))), (q1, .inl (cI, 4000, (.inl (fun _ => 0)))), (q3, .inl (cI, 6, (.inl (fun _ => 0)))), (q5, .inl (cI, 49152, (.inl (fun _ => 0)))), (q7, .inl (cZ, 768, (.inl (fun _ => 0)))), (q144, .inl (cI, 8, (.inl (fun _ => 0))))] := hD
  obtain ⟨fs_145, efs_145⟩ : ∃ y, y = (fs_143.set 111 (.ref q144)) := ⟨_, rfl⟩
  rw [← efs_145] at hP hD
  have hfl_145 : fs_145.length = 172 := by rw [efs_145, List.length_set]; exact hfl_143
  have hP := hP.sub (ws' := [(h0, .inr (12, fs_145)), (q1, .inl (cI, 4000, (.inl (fun _ => 0)))), (q3, .inl (cI, 6, (.inl (fun _ => 0)))), (q5, .inl (cI, 49152, (.inl (fun _ => 0)))), (q7, .inl (cZ, 768, (.inl (fun _ => 0))))]) [0, 1, 2, 3, 4] rfl
  have hD := hD.sub (ws' := [(h0, .inr (12, fs_145)), (q1, .inl (cI, 4000, (.inl (fun _ => 0)))), (q3, .inl (cI, 6, (.inl (fun _ => 0)))), (q5, .inl (cI, 49152, (.inl (fun _ => 0)))), (q7, .inl (cZ, 768, (.inl (fun _ => 0))))]) [0, 1, 2, 3, 4] (by decide) rfl
  refine lv_aload_n hx hb dX12_init_619 rfl (lv_at hl 0 rfl) ?_
  refine lv_bipush (v := 8) hx hb dX12_init_620 (by decide) ?_
  refine nw_arr (atype := .int) (N' := 8) (a0 := (8, (.inl (fun _ => 0)))) hx hb (hts (.arrayClass .int) (List.mem_of_getElem? (i := 4) rfl)) rfl hK 0 (cI := cI) rfl hP hD hS hA (fun _ => rfl) (by decide) (by decide) (by decide) (Nat.le_of_ble_eq_true rfl) (Nat.le_of_ble_eq_true rfl) dX12_init_622 (fun q146 H hP hD hS => ?_)
  have hP : va_P (dC, dI) vwCl [(h0, .inr (12, fs_145)), (q1, .inl (cI, 4000, (.inl (fun _ => 0)))), (q3, .inl (cI, 6, (.inl (fun _ => 0)))), (q5, .inl (cI, 49152, (.inl (fun _ => 0)))), (q7, .inl (cZ, 768, (.inl (fun _ => 0)))), (q146, .inl (cI, 8, (.inl (fun _ => 0))))] H := hP
  have hD : va_D A [(h0, .inr (12, fs_145)), (q1, .inl (cI, 4000, (.inl (fun _ => 0)))), (q3, .inl (cI, 6, (.inl (fun _ => 0)))), (q5, .inl (cI, 49152, (.inl (fun _ => 0)))), (q7, .inl (cZ, 768, (.inl (fun _ => 0)))), (q146, .inl (cI, 8, (.inl (fun _ => 0))))] := hD
  refine W.widen (k := 73) (n := 687590) (by decide) (by decide) ?_
  refine va_putF (D := (dC, dI)) (ci := 12) (v := .ref q146) (ty := .array (.int)) (C := RX12) (T := TX12) (N := 172) hx hb hts inX12_init_c12 tyX12 tyX12_ok nmX12 hown hK hP hD hS 0 rfl rfl 112 (by decide) (hts (.fieldLink RX12 236 "DiskEvidenceModel" "openFile" "[I") (List.mem_of_getElem? (i := 84) rfl)) (fun _ h9 => h9) rfl hin rfl (by decide +kernel) rfl rfl (by rw [hfl_145]; decide) dX12_init_624 (fun H locs hP hD hS => ?_)
  have hP : va_P (dC, dI) vwCl [(h0, .inr (12, (fs_145.set 112 (.ref q146)))), (q1, .inl (cI, 4000, (.inl (fun _ => 0)))), (q3, .inl (cI, 6, (.inl (fun _ => 0)))), (q5, .inl (cI, 49152, (.inl (fun _ => 0)))), (q7, .inl (cZ, 768, (.inl (fun _ => 0)))), (q146, .inl (cI, 8, (.inl (fun _ => 0))))] H := hP
  have hD : va_D A [(h0, .inr (12, (fs_145.set 112 (.ref q146)))), (q1, .inl (cI, 4000, (.inl (fun _ => 0)))), (q3, .inl (cI, 6, (.inl (fun _ => 0)))), (q5, .inl (cI, 49152, (.inl (fun _ => 0)))), (q7, .inl (cZ, 768, (.inl (fun _ => 0)))), (q146, .inl (cI, 8, (.inl (fun _ => 0))))] := hD
  obtain ⟨fs_147, efs_147⟩ : ∃ y, y = (fs_145.set 112 (.ref q146)) := ⟨_, rfl⟩
  rw [← efs_147] at hP hD
  have hfl_147 : fs_147.length = 172 := by rw [efs_147, List.length_set]; exact hfl_145
  have hP := hP.sub (ws' := [(h0, .inr (12, fs_147)), (q1, .inl (cI, 4000, (.inl (fun _ => 0)))), (q3, .inl (cI, 6, (.inl (fun _ => 0)))), (q5, .inl (cI, 49152, (.inl (fun _ => 0)))), (q7, .inl (cZ, 768, (.inl (fun _ => 0))))]) [0, 1, 2, 3, 4] rfl
  have hD := hD.sub (ws' := [(h0, .inr (12, fs_147)), (q1, .inl (cI, 4000, (.inl (fun _ => 0)))), (q3, .inl (cI, 6, (.inl (fun _ => 0)))), (q5, .inl (cI, 49152, (.inl (fun _ => 0)))), (q7, .inl (cZ, 768, (.inl (fun _ => 0))))]) [0, 1, 2, 3, 4] (by decide) rfl
  refine lv_aload_n hx hb dX12_init_627 rfl (lv_at hl 0 rfl) ?_
  refine lv_bipush (v := 8) hx hb dX12_init_628 (by decide) ?_
  refine nw_arr (atype := .int) (N' := 8) (a0 := (8, (.inl (fun _ => 0)))) hx hb (hts (.arrayClass .int) (List.mem_of_getElem? (i := 4) rfl)) rfl hK 0 (cI := cI) rfl hP hD hS hA (fun _ => rfl) (by decide) (by decide) (by decide) (Nat.le_of_ble_eq_true rfl) (Nat.le_of_ble_eq_true rfl) dX12_init_630 (fun q148 H hP hD hS => ?_)
  have hP : va_P (dC, dI) vwCl [(h0, .inr (12, fs_147)), (q1, .inl (cI, 4000, (.inl (fun _ => 0)))), (q3, .inl (cI, 6, (.inl (fun _ => 0)))), (q5, .inl (cI, 49152, (.inl (fun _ => 0)))), (q7, .inl (cZ, 768, (.inl (fun _ => 0)))), (q148, .inl (cI, 8, (.inl (fun _ => 0))))] H := hP
  have hD : va_D A [(h0, .inr (12, fs_147)), (q1, .inl (cI, 4000, (.inl (fun _ => 0)))), (q3, .inl (cI, 6, (.inl (fun _ => 0)))), (q5, .inl (cI, 49152, (.inl (fun _ => 0)))), (q7, .inl (cZ, 768, (.inl (fun _ => 0)))), (q148, .inl (cI, 8, (.inl (fun _ => 0))))] := hD
  refine W.widen (k := 74) (n := 687598) (by decide) (by decide) ?_
  refine va_putF (D := (dC, dI)) (ci := 12) (v := .ref q148) (ty := .array (.int)) (C := RX12) (T := TX12) (N := 172) hx hb hts inX12_init_c12 tyX12 tyX12_ok nmX12 hown hK hP hD hS 0 rfl rfl 113 (by decide) (hts (.fieldLink RX12 239 "DiskEvidenceModel" "openSize" "[I") (List.mem_of_getElem? (i := 85) rfl)) (fun _ h9 => h9) rfl hin rfl (by decide +kernel) rfl rfl (by rw [hfl_147]; decide) dX12_init_632 (fun H locs hP hD hS => ?_)
  have hP : va_P (dC, dI) vwCl [(h0, .inr (12, (fs_147.set 113 (.ref q148)))), (q1, .inl (cI, 4000, (.inl (fun _ => 0)))), (q3, .inl (cI, 6, (.inl (fun _ => 0)))), (q5, .inl (cI, 49152, (.inl (fun _ => 0)))), (q7, .inl (cZ, 768, (.inl (fun _ => 0)))), (q148, .inl (cI, 8, (.inl (fun _ => 0))))] H := hP
  have hD : va_D A [(h0, .inr (12, (fs_147.set 113 (.ref q148)))), (q1, .inl (cI, 4000, (.inl (fun _ => 0)))), (q3, .inl (cI, 6, (.inl (fun _ => 0)))), (q5, .inl (cI, 49152, (.inl (fun _ => 0)))), (q7, .inl (cZ, 768, (.inl (fun _ => 0)))), (q148, .inl (cI, 8, (.inl (fun _ => 0))))] := hD
  obtain ⟨fs_149, efs_149⟩ : ∃ y, y = (fs_147.set 113 (.ref q148)) := ⟨_, rfl⟩
  rw [← efs_149] at hP hD
  have hfl_149 : fs_149.length = 172 := by rw [efs_149, List.length_set]; exact hfl_147
  have hP := hP.sub (ws' := [(h0, .inr (12, fs_149)), (q1, .inl (cI, 4000, (.inl (fun _ => 0)))), (q3, .inl (cI, 6, (.inl (fun _ => 0)))), (q5, .inl (cI, 49152, (.inl (fun _ => 0)))), (q7, .inl (cZ, 768, (.inl (fun _ => 0))))]) [0, 1, 2, 3, 4] rfl
  have hD := hD.sub (ws' := [(h0, .inr (12, fs_149)), (q1, .inl (cI, 4000, (.inl (fun _ => 0)))), (q3, .inl (cI, 6, (.inl (fun _ => 0)))), (q5, .inl (cI, 49152, (.inl (fun _ => 0)))), (q7, .inl (cZ, 768, (.inl (fun _ => 0))))]) [0, 1, 2, 3, 4] (by decide) rfl
  refine lv_aload_n hx hb dX12_init_635 rfl (lv_at hl 0 rfl) ?_
  refine lv_bipush (v := 8) hx hb dX12_init_636 (by decide) ?_
  refine nw_arr (atype := .int) (N' := 8) (a0 := (8, (.inl (fun _ => 0)))) hx hb (hts (.arrayClass .int) (List.mem_of_getElem? (i := 4) rfl)) rfl hK 0 (cI := cI) rfl hP hD hS hA (fun _ => rfl) (by decide) (by decide) (by decide) (Nat.le_of_ble_eq_true rfl) (Nat.le_of_ble_eq_true rfl) dX12_init_638 (fun q150 H hP hD hS => ?_)
  have hP : va_P (dC, dI) vwCl [(h0, .inr (12, fs_149)), (q1, .inl (cI, 4000, (.inl (fun _ => 0)))), (q3, .inl (cI, 6, (.inl (fun _ => 0)))), (q5, .inl (cI, 49152, (.inl (fun _ => 0)))), (q7, .inl (cZ, 768, (.inl (fun _ => 0)))), (q150, .inl (cI, 8, (.inl (fun _ => 0))))] H := hP
  have hD : va_D A [(h0, .inr (12, fs_149)), (q1, .inl (cI, 4000, (.inl (fun _ => 0)))), (q3, .inl (cI, 6, (.inl (fun _ => 0)))), (q5, .inl (cI, 49152, (.inl (fun _ => 0)))), (q7, .inl (cZ, 768, (.inl (fun _ => 0)))), (q150, .inl (cI, 8, (.inl (fun _ => 0))))] := hD
  refine W.widen (k := 75) (n := 687606) (by decide) (by decide) ?_
  refine va_putF (D := (dC, dI)) (ci := 12) (v := .ref q150) (ty := .array (.int)) (C := RX12) (T := TX12) (N := 172) hx hb hts inX12_init_c12 tyX12 tyX12_ok nmX12 hown hK hP hD hS 0 rfl rfl 114 (by decide) (hts (.fieldLink RX12 242 "DiskEvidenceModel" "points" "[I") (List.mem_of_getElem? (i := 86) rfl)) (fun _ h9 => h9) rfl hin rfl (by decide +kernel) rfl rfl (by rw [hfl_149]; decide) dX12_init_640 (fun H locs hP hD hS => ?_)
  have hP : va_P (dC, dI) vwCl [(h0, .inr (12, (fs_149.set 114 (.ref q150)))), (q1, .inl (cI, 4000, (.inl (fun _ => 0)))), (q3, .inl (cI, 6, (.inl (fun _ => 0)))), (q5, .inl (cI, 49152, (.inl (fun _ => 0)))), (q7, .inl (cZ, 768, (.inl (fun _ => 0)))), (q150, .inl (cI, 8, (.inl (fun _ => 0))))] H := hP
  have hD : va_D A [(h0, .inr (12, (fs_149.set 114 (.ref q150)))), (q1, .inl (cI, 4000, (.inl (fun _ => 0)))), (q3, .inl (cI, 6, (.inl (fun _ => 0)))), (q5, .inl (cI, 49152, (.inl (fun _ => 0)))), (q7, .inl (cZ, 768, (.inl (fun _ => 0)))), (q150, .inl (cI, 8, (.inl (fun _ => 0))))] := hD
  obtain ⟨fs_151, efs_151⟩ : ∃ y, y = (fs_149.set 114 (.ref q150)) := ⟨_, rfl⟩
  rw [← efs_151] at hP hD
  have hfl_151 : fs_151.length = 172 := by rw [efs_151, List.length_set]; exact hfl_149
  have hP := hP.sub (ws' := [(h0, .inr (12, fs_151)), (q1, .inl (cI, 4000, (.inl (fun _ => 0)))), (q3, .inl (cI, 6, (.inl (fun _ => 0)))), (q5, .inl (cI, 49152, (.inl (fun _ => 0)))), (q7, .inl (cZ, 768, (.inl (fun _ => 0))))]) [0, 1, 2, 3, 4] rfl
  have hD := hD.sub (ws' := [(h0, .inr (12, fs_151)), (q1, .inl (cI, 4000, (.inl (fun _ => 0)))), (q3, .inl (cI, 6, (.inl (fun _ => 0)))), (q5, .inl (cI, 49152, (.inl (fun _ => 0)))), (q7, .inl (cZ, 768, (.inl (fun _ => 0))))]) [0, 1, 2, 3, 4] (by decide) rfl
  refine lv_aload_n hx hb dX12_init_643 rfl (lv_at hl 0 rfl) ?_
  refine lv_sipush (v := 960) hx hb dX12_init_644 (by decide) ?_
  refine nw_arr (atype := .int) (N' := 960) (a0 := (960, (.inl (fun _ => 0)))) hx hb (hts (.arrayClass .int) (List.mem_of_getElem? (i := 4) rfl)) rfl hK 0 (cI := cI) rfl hP hD hS hA (fun _ => rfl) (by decide) (by decide) (by decide) (Nat.le_of_ble_eq_true rfl) (Nat.le_of_ble_eq_true rfl) dX12_init_647 (fun q152 H hP hD hS => ?_)
  have hP : va_P (dC, dI) vwCl [(h0, .inr (12, fs_151)), (q1, .inl (cI, 4000, (.inl (fun _ => 0)))), (q3, .inl (cI, 6, (.inl (fun _ => 0)))), (q5, .inl (cI, 49152, (.inl (fun _ => 0)))), (q7, .inl (cZ, 768, (.inl (fun _ => 0)))), (q152, .inl (cI, 960, (.inl (fun _ => 0))))] H := hP
  have hD : va_D A [(h0, .inr (12, fs_151)), (q1, .inl (cI, 4000, (.inl (fun _ => 0)))), (q3, .inl (cI, 6, (.inl (fun _ => 0)))), (q5, .inl (cI, 49152, (.inl (fun _ => 0)))), (q7, .inl (cZ, 768, (.inl (fun _ => 0)))), (q152, .inl (cI, 960, (.inl (fun _ => 0))))] := hD
  refine W.widen (k := 76) (n := 688566) (by decide) (by decide) ?_
  refine va_putF (D := (dC, dI)) (ci := 12) (v := .ref q152) (ty := .array (.int)) (C := RX12) (T := TX12) (N := 172) hx hb hts inX12_init_c12 tyX12 tyX12_ok nmX12 hown hK hP hD hS 0 rfl rfl 115 (by decide) (hts (.fieldLink RX12 245 "DiskEvidenceModel" "pointKind" "[I") (List.mem_of_getElem? (i := 87) rfl)) (fun _ h9 => h9) rfl hin rfl (by decide +kernel) rfl rfl (by rw [hfl_151]; decide) dX12_init_649 (fun H locs hP hD hS => ?_)
  have hP : va_P (dC, dI) vwCl [(h0, .inr (12, (fs_151.set 115 (.ref q152)))), (q1, .inl (cI, 4000, (.inl (fun _ => 0)))), (q3, .inl (cI, 6, (.inl (fun _ => 0)))), (q5, .inl (cI, 49152, (.inl (fun _ => 0)))), (q7, .inl (cZ, 768, (.inl (fun _ => 0)))), (q152, .inl (cI, 960, (.inl (fun _ => 0))))] H := hP
  have hD : va_D A [(h0, .inr (12, (fs_151.set 115 (.ref q152)))), (q1, .inl (cI, 4000, (.inl (fun _ => 0)))), (q3, .inl (cI, 6, (.inl (fun _ => 0)))), (q5, .inl (cI, 49152, (.inl (fun _ => 0)))), (q7, .inl (cZ, 768, (.inl (fun _ => 0)))), (q152, .inl (cI, 960, (.inl (fun _ => 0))))] := hD
  obtain ⟨fs_153, efs_153⟩ : ∃ y, y = (fs_151.set 115 (.ref q152)) := ⟨_, rfl⟩
  rw [← efs_153] at hP hD
  have hfl_153 : fs_153.length = 172 := by rw [efs_153, List.length_set]; exact hfl_151
  have hP := hP.sub (ws' := [(h0, .inr (12, fs_153)), (q1, .inl (cI, 4000, (.inl (fun _ => 0)))), (q3, .inl (cI, 6, (.inl (fun _ => 0)))), (q5, .inl (cI, 49152, (.inl (fun _ => 0)))), (q7, .inl (cZ, 768, (.inl (fun _ => 0))))]) [0, 1, 2, 3, 4] rfl
  have hD := hD.sub (ws' := [(h0, .inr (12, fs_153)), (q1, .inl (cI, 4000, (.inl (fun _ => 0)))), (q3, .inl (cI, 6, (.inl (fun _ => 0)))), (q5, .inl (cI, 49152, (.inl (fun _ => 0)))), (q7, .inl (cZ, 768, (.inl (fun _ => 0))))]) [0, 1, 2, 3, 4] (by decide) rfl
  refine lv_aload_n hx hb dX12_init_652 rfl (lv_at hl 0 rfl) ?_
  refine lv_sipush (v := 960) hx hb dX12_init_653 (by decide) ?_
  refine nw_arr (atype := .int) (N' := 960) (a0 := (960, (.inl (fun _ => 0)))) hx hb (hts (.arrayClass .int) (List.mem_of_getElem? (i := 4) rfl)) rfl hK 0 (cI := cI) rfl hP hD hS hA (fun _ => rfl) (by decide) (by decide) (by decide) (Nat.le_of_ble_eq_true rfl) (Nat.le_of_ble_eq_true rfl) dX12_init_656 (fun q154 H hP hD hS => ?_)
  have hP : va_P (dC, dI) vwCl [(h0, .inr (12, fs_153)), (q1, .inl (cI, 4000, (.inl (fun _ => 0)))), (q3, .inl (cI, 6, (.inl (fun _ => 0)))), (q5, .inl (cI, 49152, (.inl (fun _ => 0)))), (q7, .inl (cZ, 768, (.inl (fun _ => 0)))), (q154, .inl (cI, 960, (.inl (fun _ => 0))))] H := hP
  have hD : va_D A [(h0, .inr (12, fs_153)), (q1, .inl (cI, 4000, (.inl (fun _ => 0)))), (q3, .inl (cI, 6, (.inl (fun _ => 0)))), (q5, .inl (cI, 49152, (.inl (fun _ => 0)))), (q7, .inl (cZ, 768, (.inl (fun _ => 0)))), (q154, .inl (cI, 960, (.inl (fun _ => 0))))] := hD
  refine W.widen (k := 77) (n := 689526) (by decide) (by decide) ?_
  refine va_putF (D := (dC, dI)) (ci := 12) (v := .ref q154) (ty := .array (.int)) (C := RX12) (T := TX12) (N := 172) hx hb hts inX12_init_c12 tyX12 tyX12_ok nmX12 hown hK hP hD hS 0 rfl rfl 116 (by decide) (hts (.fieldLink RX12 248 "DiskEvidenceModel" "pointFrom" "[I") (List.mem_of_getElem? (i := 88) rfl)) (fun _ h9 => h9) rfl hin rfl (by decide +kernel) rfl rfl (by rw [hfl_153]; decide) dX12_init_658 (fun H locs hP hD hS => ?_)
  have hP : va_P (dC, dI) vwCl [(h0, .inr (12, (fs_153.set 116 (.ref q154)))), (q1, .inl (cI, 4000, (.inl (fun _ => 0)))), (q3, .inl (cI, 6, (.inl (fun _ => 0)))), (q5, .inl (cI, 49152, (.inl (fun _ => 0)))), (q7, .inl (cZ, 768, (.inl (fun _ => 0)))), (q154, .inl (cI, 960, (.inl (fun _ => 0))))] H := hP
  have hD : va_D A [(h0, .inr (12, (fs_153.set 116 (.ref q154)))), (q1, .inl (cI, 4000, (.inl (fun _ => 0)))), (q3, .inl (cI, 6, (.inl (fun _ => 0)))), (q5, .inl (cI, 49152, (.inl (fun _ => 0)))), (q7, .inl (cZ, 768, (.inl (fun _ => 0)))), (q154, .inl (cI, 960, (.inl (fun _ => 0))))] := hD
  obtain ⟨fs_155, efs_155⟩ : ∃ y, y = (fs_153.set 116 (.ref q154)) := ⟨_, rfl⟩
  rw [← efs_155] at hP hD
  have hfl_155 : fs_155.length = 172 := by rw [efs_155, List.length_set]; exact hfl_153
  have hP := hP.sub (ws' := [(h0, .inr (12, fs_155)), (q1, .inl (cI, 4000, (.inl (fun _ => 0)))), (q3, .inl (cI, 6, (.inl (fun _ => 0)))), (q5, .inl (cI, 49152, (.inl (fun _ => 0)))), (q7, .inl (cZ, 768, (.inl (fun _ => 0))))]) [0, 1, 2, 3, 4] rfl
  have hD := hD.sub (ws' := [(h0, .inr (12, fs_155)), (q1, .inl (cI, 4000, (.inl (fun _ => 0)))), (q3, .inl (cI, 6, (.inl (fun _ => 0)))), (q5, .inl (cI, 49152, (.inl (fun _ => 0)))), (q7, .inl (cZ, 768, (.inl (fun _ => 0))))]) [0, 1, 2, 3, 4] (by decide) rfl
  refine lv_aload_n hx hb dX12_init_661 rfl (lv_at hl 0 rfl) ?_
  refine lv_sipush (v := 960) hx hb dX12_init_662 (by decide) ?_
  refine nw_arr (atype := .int) (N' := 960) (a0 := (960, (.inl (fun _ => 0)))) hx hb (hts (.arrayClass .int) (List.mem_of_getElem? (i := 4) rfl)) rfl hK 0 (cI := cI) rfl hP hD hS hA (fun _ => rfl) (by decide) (by decide) (by decide) (Nat.le_of_ble_eq_true rfl) (Nat.le_of_ble_eq_true rfl) dX12_init_665 (fun q156 H hP hD hS => ?_)
  have hP : va_P (dC, dI) vwCl [(h0, .inr (12, fs_155)), (q1, .inl (cI, 4000, (.inl (fun _ => 0)))), (q3, .inl (cI, 6, (.inl (fun _ => 0)))), (q5, .inl (cI, 49152, (.inl (fun _ => 0)))), (q7, .inl (cZ, 768, (.inl (fun _ => 0)))), (q156, .inl (cI, 960, (.inl (fun _ => 0))))] H := hP
  have hD : va_D A [(h0, .inr (12, fs_155)), (q1, .inl (cI, 4000, (.inl (fun _ => 0)))), (q3, .inl (cI, 6, (.inl (fun _ => 0)))), (q5, .inl (cI, 49152, (.inl (fun _ => 0)))), (q7, .inl (cZ, 768, (.inl (fun _ => 0)))), (q156, .inl (cI, 960, (.inl (fun _ => 0))))] := hD
  refine W.widen (k := 78) (n := 690486) (by decide) (by decide) ?_
  refine va_putF (D := (dC, dI)) (ci := 12) (v := .ref q156) (ty := .array (.int)) (C := RX12) (T := TX12) (N := 172) hx hb hts inX12_init_c12 tyX12 tyX12_ok nmX12 hown hK hP hD hS 0 rfl rfl 117 (by decide) (hts (.fieldLink RX12 251 "DiskEvidenceModel" "pointTo" "[I") (List.mem_of_getElem? (i := 89) rfl)) (fun _ h9 => h9) rfl hin rfl (by decide +kernel) rfl rfl (by rw [hfl_155]; decide) dX12_init_667 (fun H locs hP hD hS => ?_)
  have hP : va_P (dC, dI) vwCl [(h0, .inr (12, (fs_155.set 117 (.ref q156)))), (q1, .inl (cI, 4000, (.inl (fun _ => 0)))), (q3, .inl (cI, 6, (.inl (fun _ => 0)))), (q5, .inl (cI, 49152, (.inl (fun _ => 0)))), (q7, .inl (cZ, 768, (.inl (fun _ => 0)))), (q156, .inl (cI, 960, (.inl (fun _ => 0))))] H := hP
  have hD : va_D A [(h0, .inr (12, (fs_155.set 117 (.ref q156)))), (q1, .inl (cI, 4000, (.inl (fun _ => 0)))), (q3, .inl (cI, 6, (.inl (fun _ => 0)))), (q5, .inl (cI, 49152, (.inl (fun _ => 0)))), (q7, .inl (cZ, 768, (.inl (fun _ => 0)))), (q156, .inl (cI, 960, (.inl (fun _ => 0))))] := hD
  obtain ⟨fs_157, efs_157⟩ : ∃ y, y = (fs_155.set 117 (.ref q156)) := ⟨_, rfl⟩
  rw [← efs_157] at hP hD
  have hfl_157 : fs_157.length = 172 := by rw [efs_157, List.length_set]; exact hfl_155
  have hP := hP.sub (ws' := [(h0, .inr (12, fs_157)), (q1, .inl (cI, 4000, (.inl (fun _ => 0)))), (q3, .inl (cI, 6, (.inl (fun _ => 0)))), (q5, .inl (cI, 49152, (.inl (fun _ => 0)))), (q7, .inl (cZ, 768, (.inl (fun _ => 0))))]) [0, 1, 2, 3, 4] rfl
  have hD := hD.sub (ws' := [(h0, .inr (12, fs_157)), (q1, .inl (cI, 4000, (.inl (fun _ => 0)))), (q3, .inl (cI, 6, (.inl (fun _ => 0)))), (q5, .inl (cI, 49152, (.inl (fun _ => 0)))), (q7, .inl (cZ, 768, (.inl (fun _ => 0))))]) [0, 1, 2, 3, 4] (by decide) rfl
  refine lv_aload_n hx hb dX12_init_670 rfl (lv_at hl 0 rfl) ?_
  refine lv_sipush (v := 960) hx hb dX12_init_671 (by decide) ?_
  refine nw_arr (atype := .int) (N' := 960) (a0 := (960, (.inl (fun _ => 0)))) hx hb (hts (.arrayClass .int) (List.mem_of_getElem? (i := 4) rfl)) rfl hK 0 (cI := cI) rfl hP hD hS hA (fun _ => rfl) (by decide) (by decide) (by decide) (Nat.le_of_ble_eq_true rfl) (Nat.le_of_ble_eq_true rfl) dX12_init_674 (fun q158 H hP hD hS => ?_)
  have hP : va_P (dC, dI) vwCl [(h0, .inr (12, fs_157)), (q1, .inl (cI, 4000, (.inl (fun _ => 0)))), (q3, .inl (cI, 6, (.inl (fun _ => 0)))), (q5, .inl (cI, 49152, (.inl (fun _ => 0)))), (q7, .inl (cZ, 768, (.inl (fun _ => 0)))), (q158, .inl (cI, 960, (.inl (fun _ => 0))))] H := hP
  have hD : va_D A [(h0, .inr (12, fs_157)), (q1, .inl (cI, 4000, (.inl (fun _ => 0)))), (q3, .inl (cI, 6, (.inl (fun _ => 0)))), (q5, .inl (cI, 49152, (.inl (fun _ => 0)))), (q7, .inl (cZ, 768, (.inl (fun _ => 0)))), (q158, .inl (cI, 960, (.inl (fun _ => 0))))] := hD
  refine W.widen (k := 79) (n := 691446) (by decide) (by decide) ?_
  refine va_putF (D := (dC, dI)) (ci := 12) (v := .ref q158) (ty := .array (.int)) (C := RX12) (T := TX12) (N := 172) hx hb hts inX12_init_c12 tyX12 tyX12_ok nmX12 hown hK hP hD hS 0 rfl rfl 118 (by decide) (hts (.fieldLink RX12 254 "DiskEvidenceModel" "pointValue" "[I") (List.mem_of_getElem? (i := 90) rfl)) (fun _ h9 => h9) rfl hin rfl (by decide +kernel) rfl rfl (by rw [hfl_157]; decide) dX12_init_676 (fun H locs hP hD hS => ?_)
  have hP : va_P (dC, dI) vwCl [(h0, .inr (12, (fs_157.set 118 (.ref q158)))), (q1, .inl (cI, 4000, (.inl (fun _ => 0)))), (q3, .inl (cI, 6, (.inl (fun _ => 0)))), (q5, .inl (cI, 49152, (.inl (fun _ => 0)))), (q7, .inl (cZ, 768, (.inl (fun _ => 0)))), (q158, .inl (cI, 960, (.inl (fun _ => 0))))] H := hP
  have hD : va_D A [(h0, .inr (12, (fs_157.set 118 (.ref q158)))), (q1, .inl (cI, 4000, (.inl (fun _ => 0)))), (q3, .inl (cI, 6, (.inl (fun _ => 0)))), (q5, .inl (cI, 49152, (.inl (fun _ => 0)))), (q7, .inl (cZ, 768, (.inl (fun _ => 0)))), (q158, .inl (cI, 960, (.inl (fun _ => 0))))] := hD
  obtain ⟨fs_159, efs_159⟩ : ∃ y, y = (fs_157.set 118 (.ref q158)) := ⟨_, rfl⟩
  rw [← efs_159] at hP hD
  have hfl_159 : fs_159.length = 172 := by rw [efs_159, List.length_set]; exact hfl_157
  have hP := hP.sub (ws' := [(h0, .inr (12, fs_159)), (q1, .inl (cI, 4000, (.inl (fun _ => 0)))), (q3, .inl (cI, 6, (.inl (fun _ => 0)))), (q5, .inl (cI, 49152, (.inl (fun _ => 0)))), (q7, .inl (cZ, 768, (.inl (fun _ => 0))))]) [0, 1, 2, 3, 4] rfl
  have hD := hD.sub (ws' := [(h0, .inr (12, fs_159)), (q1, .inl (cI, 4000, (.inl (fun _ => 0)))), (q3, .inl (cI, 6, (.inl (fun _ => 0)))), (q5, .inl (cI, 49152, (.inl (fun _ => 0)))), (q7, .inl (cZ, 768, (.inl (fun _ => 0))))]) [0, 1, 2, 3, 4] (by decide) rfl
  refine lv_aload_n hx hb dX12_init_679 rfl (lv_at hl 0 rfl) ?_
  refine lv_sipush (v := 960) hx hb dX12_init_680 (by decide) ?_
  refine nw_arr (atype := .int) (N' := 960) (a0 := (960, (.inl (fun _ => 0)))) hx hb (hts (.arrayClass .int) (List.mem_of_getElem? (i := 4) rfl)) rfl hK 0 (cI := cI) rfl hP hD hS hA (fun _ => rfl) (by decide) (by decide) (by decide) (Nat.le_of_ble_eq_true rfl) (Nat.le_of_ble_eq_true rfl) dX12_init_683 (fun q160 H hP hD hS => ?_)
  have hP : va_P (dC, dI) vwCl [(h0, .inr (12, fs_159)), (q1, .inl (cI, 4000, (.inl (fun _ => 0)))), (q3, .inl (cI, 6, (.inl (fun _ => 0)))), (q5, .inl (cI, 49152, (.inl (fun _ => 0)))), (q7, .inl (cZ, 768, (.inl (fun _ => 0)))), (q160, .inl (cI, 960, (.inl (fun _ => 0))))] H := hP
  have hD : va_D A [(h0, .inr (12, fs_159)), (q1, .inl (cI, 4000, (.inl (fun _ => 0)))), (q3, .inl (cI, 6, (.inl (fun _ => 0)))), (q5, .inl (cI, 49152, (.inl (fun _ => 0)))), (q7, .inl (cZ, 768, (.inl (fun _ => 0)))), (q160, .inl (cI, 960, (.inl (fun _ => 0))))] := hD
  refine W.widen (k := 80) (n := 692406) (by decide) (by decide) ?_
  refine va_putF (D := (dC, dI)) (ci := 12) (v := .ref q160) (ty := .array (.int)) (C := RX12) (T := TX12) (N := 172) hx hb hts inX12_init_c12 tyX12 tyX12_ok nmX12 hown hK hP hD hS 0 rfl rfl 119 (by decide) (hts (.fieldLink RX12 257 "DiskEvidenceModel" "pointParent" "[I") (List.mem_of_getElem? (i := 91) rfl)) (fun _ h9 => h9) rfl hin rfl (by decide +kernel) rfl rfl (by rw [hfl_159]; decide) dX12_init_685 (fun H locs hP hD hS => ?_)
  have hP : va_P (dC, dI) vwCl [(h0, .inr (12, (fs_159.set 119 (.ref q160)))), (q1, .inl (cI, 4000, (.inl (fun _ => 0)))), (q3, .inl (cI, 6, (.inl (fun _ => 0)))), (q5, .inl (cI, 49152, (.inl (fun _ => 0)))), (q7, .inl (cZ, 768, (.inl (fun _ => 0)))), (q160, .inl (cI, 960, (.inl (fun _ => 0))))] H := hP
  have hD : va_D A [(h0, .inr (12, (fs_159.set 119 (.ref q160)))), (q1, .inl (cI, 4000, (.inl (fun _ => 0)))), (q3, .inl (cI, 6, (.inl (fun _ => 0)))), (q5, .inl (cI, 49152, (.inl (fun _ => 0)))), (q7, .inl (cZ, 768, (.inl (fun _ => 0)))), (q160, .inl (cI, 960, (.inl (fun _ => 0))))] := hD
  obtain ⟨fs_161, efs_161⟩ : ∃ y, y = (fs_159.set 119 (.ref q160)) := ⟨_, rfl⟩
  rw [← efs_161] at hP hD
  have hfl_161 : fs_161.length = 172 := by rw [efs_161, List.length_set]; exact hfl_159
  have hP := hP.sub (ws' := [(h0, .inr (12, fs_161)), (q1, .inl (cI, 4000, (.inl (fun _ => 0)))), (q3, .inl (cI, 6, (.inl (fun _ => 0)))), (q5, .inl (cI, 49152, (.inl (fun _ => 0)))), (q7, .inl (cZ, 768, (.inl (fun _ => 0))))]) [0, 1, 2, 3, 4] rfl
  have hD := hD.sub (ws' := [(h0, .inr (12, fs_161)), (q1, .inl (cI, 4000, (.inl (fun _ => 0)))), (q3, .inl (cI, 6, (.inl (fun _ => 0)))), (q5, .inl (cI, 49152, (.inl (fun _ => 0)))), (q7, .inl (cZ, 768, (.inl (fun _ => 0))))]) [0, 1, 2, 3, 4] (by decide) rfl
  refine lv_aload_n hx hb dX12_init_688 rfl (lv_at hl 0 rfl) ?_
  refine lv_sipush (v := 1100) hx hb dX12_init_689 (by decide) ?_
  refine nw_arr (atype := .int) (N' := 1100) (a0 := (1100, (.inl (fun _ => 0)))) hx hb (hts (.arrayClass .int) (List.mem_of_getElem? (i := 4) rfl)) rfl hK 0 (cI := cI) rfl hP hD hS hA (fun _ => rfl) (by decide) (by decide) (by decide) (Nat.le_of_ble_eq_true rfl) (Nat.le_of_ble_eq_true rfl) dX12_init_692 (fun q162 H hP hD hS => ?_)
  have hP : va_P (dC, dI) vwCl [(h0, .inr (12, fs_161)), (q1, .inl (cI, 4000, (.inl (fun _ => 0)))), (q3, .inl (cI, 6, (.inl (fun _ => 0)))), (q5, .inl (cI, 49152, (.inl (fun _ => 0)))), (q7, .inl (cZ, 768, (.inl (fun _ => 0)))), (q162, .inl (cI, 1100, (.inl (fun _ => 0))))] H := hP
  have hD : va_D A [(h0, .inr (12, fs_161)), (q1, .inl (cI, 4000, (.inl (fun _ => 0)))), (q3, .inl (cI, 6, (.inl (fun _ => 0)))), (q5, .inl (cI, 49152, (.inl (fun _ => 0)))), (q7, .inl (cZ, 768, (.inl (fun _ => 0)))), (q162, .inl (cI, 1100, (.inl (fun _ => 0))))] := hD
  refine W.widen (k := 81) (n := 693506) (by decide) (by decide) ?_
  refine va_putF (D := (dC, dI)) (ci := 12) (v := .ref q162) (ty := .array (.int)) (C := RX12) (T := TX12) (N := 172) hx hb hts inX12_init_c12 tyX12 tyX12_ok nmX12 hown hK hP hD hS 0 rfl rfl 121 (by decide) (hts (.fieldLink RX12 260 "DiskEvidenceModel" "packAt" "[I") (List.mem_of_getElem? (i := 92) rfl)) (fun _ h9 => h9) rfl hin rfl (by decide +kernel) rfl rfl (by rw [hfl_161]; decide) dX12_init_694 (fun H locs hP hD hS => ?_)
  have hP : va_P (dC, dI) vwCl [(h0, .inr (12, (fs_161.set 121 (.ref q162)))), (q1, .inl (cI, 4000, (.inl (fun _ => 0)))), (q3, .inl (cI, 6, (.inl (fun _ => 0)))), (q5, .inl (cI, 49152, (.inl (fun _ => 0)))), (q7, .inl (cZ, 768, (.inl (fun _ => 0)))), (q162, .inl (cI, 1100, (.inl (fun _ => 0))))] H := hP
  have hD : va_D A [(h0, .inr (12, (fs_161.set 121 (.ref q162)))), (q1, .inl (cI, 4000, (.inl (fun _ => 0)))), (q3, .inl (cI, 6, (.inl (fun _ => 0)))), (q5, .inl (cI, 49152, (.inl (fun _ => 0)))), (q7, .inl (cZ, 768, (.inl (fun _ => 0)))), (q162, .inl (cI, 1100, (.inl (fun _ => 0))))] := hD
  obtain ⟨fs_163, efs_163⟩ : ∃ y, y = (fs_161.set 121 (.ref q162)) := ⟨_, rfl⟩
  rw [← efs_163] at hP hD
  have hfl_163 : fs_163.length = 172 := by rw [efs_163, List.length_set]; exact hfl_161
  have hP := hP.sub (ws' := [(h0, .inr (12, fs_163)), (q1, .inl (cI, 4000, (.inl (fun _ => 0)))), (q3, .inl (cI, 6, (.inl (fun _ => 0)))), (q5, .inl (cI, 49152, (.inl (fun _ => 0)))), (q7, .inl (cZ, 768, (.inl (fun _ => 0))))]) [0, 1, 2, 3, 4] rfl
  have hD := hD.sub (ws' := [(h0, .inr (12, fs_163)), (q1, .inl (cI, 4000, (.inl (fun _ => 0)))), (q3, .inl (cI, 6, (.inl (fun _ => 0)))), (q5, .inl (cI, 49152, (.inl (fun _ => 0)))), (q7, .inl (cZ, 768, (.inl (fun _ => 0))))]) [0, 1, 2, 3, 4] (by decide) rfl
  refine lv_aload_n hx hb dX12_init_697 rfl (lv_at hl 0 rfl) ?_
  refine lv_bipush (v := 60) hx hb dX12_init_698 (by decide) ?_
  refine nw_arr (atype := .boolean) (N' := 60) (a0 := (60, (.inl (fun _ => 0)))) hx hb (hts (.arrayClass .boolean) (List.mem_of_getElem? (i := 9) rfl)) rfl hK 2 (cI := cZ) rfl hP hD hS hA (fun _ => rfl) (by decide) (by decide) (by decide) (Nat.le_of_ble_eq_true rfl) (Nat.le_of_ble_eq_true rfl) dX12_init_700 (fun q164 H hP hD hS => ?_)
  have hP : va_P (dC, dI) vwCl [(h0, .inr (12, fs_163)), (q1, .inl (cI, 4000, (.inl (fun _ => 0)))), (q3, .inl (cI, 6, (.inl (fun _ => 0)))), (q5, .inl (cI, 49152, (.inl (fun _ => 0)))), (q7, .inl (cZ, 768, (.inl (fun _ => 0)))), (q164, .inl (cZ, 60, (.inl (fun _ => 0))))] H := hP
  have hD : va_D A [(h0, .inr (12, fs_163)), (q1, .inl (cI, 4000, (.inl (fun _ => 0)))), (q3, .inl (cI, 6, (.inl (fun _ => 0)))), (q5, .inl (cI, 49152, (.inl (fun _ => 0)))), (q7, .inl (cZ, 768, (.inl (fun _ => 0)))), (q164, .inl (cZ, 60, (.inl (fun _ => 0))))] := hD
  refine W.widen (k := 82) (n := 693566) (by decide) (by decide) ?_
  refine va_putF (D := (dC, dI)) (ci := 12) (v := .ref q164) (ty := .array (.boolean)) (C := RX12) (T := TX12) (N := 172) hx hb hts inX12_init_c12 tyX12 tyX12_ok nmX12 hown hK hP hD hS 0 rfl rfl 123 (by decide) (hts (.fieldLink RX12 263 "DiskEvidenceModel" "isHad" "[Z") (List.mem_of_getElem? (i := 93) rfl)) (fun _ h9 => h9) rfl hin rfl (by decide +kernel) rfl rfl (by rw [hfl_163]; decide) dX12_init_702 (fun H locs hP hD hS => ?_)
  have hP : va_P (dC, dI) vwCl [(h0, .inr (12, (fs_163.set 123 (.ref q164)))), (q1, .inl (cI, 4000, (.inl (fun _ => 0)))), (q3, .inl (cI, 6, (.inl (fun _ => 0)))), (q5, .inl (cI, 49152, (.inl (fun _ => 0)))), (q7, .inl (cZ, 768, (.inl (fun _ => 0)))), (q164, .inl (cZ, 60, (.inl (fun _ => 0))))] H := hP
  have hD : va_D A [(h0, .inr (12, (fs_163.set 123 (.ref q164)))), (q1, .inl (cI, 4000, (.inl (fun _ => 0)))), (q3, .inl (cI, 6, (.inl (fun _ => 0)))), (q5, .inl (cI, 49152, (.inl (fun _ => 0)))), (q7, .inl (cZ, 768, (.inl (fun _ => 0)))), (q164, .inl (cZ, 60, (.inl (fun _ => 0))))] := hD
  obtain ⟨fs_165, efs_165⟩ : ∃ y, y = (fs_163.set 123 (.ref q164)) := ⟨_, rfl⟩
  rw [← efs_165] at hP hD
  have hfl_165 : fs_165.length = 172 := by rw [efs_165, List.length_set]; exact hfl_163
  have hP := hP.sub (ws' := [(h0, .inr (12, fs_165)), (q1, .inl (cI, 4000, (.inl (fun _ => 0)))), (q3, .inl (cI, 6, (.inl (fun _ => 0)))), (q5, .inl (cI, 49152, (.inl (fun _ => 0)))), (q7, .inl (cZ, 768, (.inl (fun _ => 0))))]) [0, 1, 2, 3, 4] rfl
  have hD := hD.sub (ws' := [(h0, .inr (12, fs_165)), (q1, .inl (cI, 4000, (.inl (fun _ => 0)))), (q3, .inl (cI, 6, (.inl (fun _ => 0)))), (q5, .inl (cI, 49152, (.inl (fun _ => 0)))), (q7, .inl (cZ, 768, (.inl (fun _ => 0))))]) [0, 1, 2, 3, 4] (by decide) rfl
  refine lv_aload_n hx hb dX12_init_705 rfl (lv_at hl 0 rfl) ?_
  refine lv_sipush (v := 200) hx hb dX12_init_706 (by decide) ?_
  refine nw_arr (atype := .int) (N' := 200) (a0 := (200, (.inl (fun _ => 0)))) hx hb (hts (.arrayClass .int) (List.mem_of_getElem? (i := 4) rfl)) rfl hK 0 (cI := cI) rfl hP hD hS hA (fun _ => rfl) (by decide) (by decide) (by decide) (Nat.le_of_ble_eq_true rfl) (Nat.le_of_ble_eq_true rfl) dX12_init_709 (fun q166 H hP hD hS => ?_)
  have hP : va_P (dC, dI) vwCl [(h0, .inr (12, fs_165)), (q1, .inl (cI, 4000, (.inl (fun _ => 0)))), (q3, .inl (cI, 6, (.inl (fun _ => 0)))), (q5, .inl (cI, 49152, (.inl (fun _ => 0)))), (q7, .inl (cZ, 768, (.inl (fun _ => 0)))), (q166, .inl (cI, 200, (.inl (fun _ => 0))))] H := hP
  have hD : va_D A [(h0, .inr (12, fs_165)), (q1, .inl (cI, 4000, (.inl (fun _ => 0)))), (q3, .inl (cI, 6, (.inl (fun _ => 0)))), (q5, .inl (cI, 49152, (.inl (fun _ => 0)))), (q7, .inl (cZ, 768, (.inl (fun _ => 0)))), (q166, .inl (cI, 200, (.inl (fun _ => 0))))] := hD
  refine W.widen (k := 83) (n := 693766) (by decide) (by decide) ?_
  refine va_putF (D := (dC, dI)) (ci := 12) (v := .ref q166) (ty := .array (.int)) (C := RX12) (T := TX12) (N := 172) hx hb hts inX12_init_c12 tyX12 tyX12_ok nmX12 hown hK hP hD hS 0 rfl rfl 125 (by decide) (hts (.fieldLink RX12 266 "DiskEvidenceModel" "hitFile" "[I") (List.mem_of_getElem? (i := 94) rfl)) (fun _ h9 => h9) rfl hin rfl (by decide +kernel) rfl rfl (by rw [hfl_165]; decide) dX12_init_711 (fun H locs hP hD hS => ?_)
  have hP : va_P (dC, dI) vwCl [(h0, .inr (12, (fs_165.set 125 (.ref q166)))), (q1, .inl (cI, 4000, (.inl (fun _ => 0)))), (q3, .inl (cI, 6, (.inl (fun _ => 0)))), (q5, .inl (cI, 49152, (.inl (fun _ => 0)))), (q7, .inl (cZ, 768, (.inl (fun _ => 0)))), (q166, .inl (cI, 200, (.inl (fun _ => 0))))] H := hP
  have hD : va_D A [(h0, .inr (12, (fs_165.set 125 (.ref q166)))), (q1, .inl (cI, 4000, (.inl (fun _ => 0)))), (q3, .inl (cI, 6, (.inl (fun _ => 0)))), (q5, .inl (cI, 49152, (.inl (fun _ => 0)))), (q7, .inl (cZ, 768, (.inl (fun _ => 0)))), (q166, .inl (cI, 200, (.inl (fun _ => 0))))] := hD
  obtain ⟨fs_167, efs_167⟩ : ∃ y, y = (fs_165.set 125 (.ref q166)) := ⟨_, rfl⟩
  rw [← efs_167] at hP hD
  have hfl_167 : fs_167.length = 172 := by rw [efs_167, List.length_set]; exact hfl_165
  have hP := hP.sub (ws' := [(h0, .inr (12, fs_167)), (q1, .inl (cI, 4000, (.inl (fun _ => 0)))), (q3, .inl (cI, 6, (.inl (fun _ => 0)))), (q5, .inl (cI, 49152, (.inl (fun _ => 0)))), (q7, .inl (cZ, 768, (.inl (fun _ => 0))))]) [0, 1, 2, 3, 4] rfl
  have hD := hD.sub (ws' := [(h0, .inr (12, fs_167)), (q1, .inl (cI, 4000, (.inl (fun _ => 0)))), (q3, .inl (cI, 6, (.inl (fun _ => 0)))), (q5, .inl (cI, 49152, (.inl (fun _ => 0)))), (q7, .inl (cZ, 768, (.inl (fun _ => 0))))]) [0, 1, 2, 3, 4] (by decide) rfl
  refine lv_aload_n hx hb dX12_init_714 rfl (lv_at hl 0 rfl) ?_
  refine lv_sipush (v := 200) hx hb dX12_init_715 (by decide) ?_
  refine nw_arr (atype := .int) (N' := 200) (a0 := (200, (.inl (fun _ => 0)))) hx hb (hts (.arrayClass .int) (List.mem_of_getElem? (i := 4) rfl)) rfl hK 0 (cI := cI) rfl hP hD hS hA (fun _ => rfl) (by decide) (by decide) (by decide) (Nat.le_of_ble_eq_true rfl) (Nat.le_of_ble_eq_true rfl) dX12_init_718 (fun q168 H hP hD hS => ?_)
  have hP : va_P (dC, dI) vwCl [(h0, .inr (12, fs_167)), (q1, .inl (cI, 4000, (.inl (fun _ => 0)))), (q3, .inl (cI, 6, (.inl (fun _ => 0)))), (q5, .inl (cI, 49152, (.inl (fun _ => 0)))), (q7, .inl (cZ, 768, (.inl (fun _ => 0)))), (q168, .inl (cI, 200, (.inl (fun _ => 0))))] H := hP
  have hD : va_D A [(h0, .inr (12, fs_167)), (q1, .inl (cI, 4000, (.inl (fun _ => 0)))), (q3, .inl (cI, 6, (.inl (fun _ => 0)))), (q5, .inl (cI, 49152, (.inl (fun _ => 0)))), (q7, .inl (cZ, 768, (.inl (fun _ => 0)))), (q168, .inl (cI, 200, (.inl (fun _ => 0))))] := hD
  refine W.widen (k := 84) (n := 693966) (by decide) (by decide) ?_
  refine va_putF (D := (dC, dI)) (ci := 12) (v := .ref q168) (ty := .array (.int)) (C := RX12) (T := TX12) (N := 172) hx hb hts inX12_init_c12 tyX12 tyX12_ok nmX12 hown hK hP hD hS 0 rfl rfl 126 (by decide) (hts (.fieldLink RX12 269 "DiskEvidenceModel" "hitAt" "[I") (List.mem_of_getElem? (i := 95) rfl)) (fun _ h9 => h9) rfl hin rfl (by decide +kernel) rfl rfl (by rw [hfl_167]; decide) dX12_init_720 (fun H locs hP hD hS => ?_)
  have hP : va_P (dC, dI) vwCl [(h0, .inr (12, (fs_167.set 126 (.ref q168)))), (q1, .inl (cI, 4000, (.inl (fun _ => 0)))), (q3, .inl (cI, 6, (.inl (fun _ => 0)))), (q5, .inl (cI, 49152, (.inl (fun _ => 0)))), (q7, .inl (cZ, 768, (.inl (fun _ => 0)))), (q168, .inl (cI, 200, (.inl (fun _ => 0))))] H := hP
  have hD : va_D A [(h0, .inr (12, (fs_167.set 126 (.ref q168)))), (q1, .inl (cI, 4000, (.inl (fun _ => 0)))), (q3, .inl (cI, 6, (.inl (fun _ => 0)))), (q5, .inl (cI, 49152, (.inl (fun _ => 0)))), (q7, .inl (cZ, 768, (.inl (fun _ => 0)))), (q168, .inl (cI, 200, (.inl (fun _ => 0))))] := hD
  obtain ⟨fs_169, efs_169⟩ : ∃ y, y = (fs_167.set 126 (.ref q168)) := ⟨_, rfl⟩
  rw [← efs_169] at hP hD
  have hfl_169 : fs_169.length = 172 := by rw [efs_169, List.length_set]; exact hfl_167
  have hP := hP.sub (ws' := [(h0, .inr (12, fs_169)), (q1, .inl (cI, 4000, (.inl (fun _ => 0)))), (q3, .inl (cI, 6, (.inl (fun _ => 0)))), (q5, .inl (cI, 49152, (.inl (fun _ => 0)))), (q7, .inl (cZ, 768, (.inl (fun _ => 0))))]) [0, 1, 2, 3, 4] rfl
  have hD := hD.sub (ws' := [(h0, .inr (12, fs_169)), (q1, .inl (cI, 4000, (.inl (fun _ => 0)))), (q3, .inl (cI, 6, (.inl (fun _ => 0)))), (q5, .inl (cI, 49152, (.inl (fun _ => 0)))), (q7, .inl (cZ, 768, (.inl (fun _ => 0))))]) [0, 1, 2, 3, 4] (by decide) rfl
  refine lv_aload_n hx hb dX12_init_723 rfl (lv_at hl 0 rfl) ?_
  refine lv_sipush (v := 200) hx hb dX12_init_724 (by decide) ?_
  refine nw_arr (atype := .int) (N' := 200) (a0 := (200, (.inl (fun _ => 0)))) hx hb (hts (.arrayClass .int) (List.mem_of_getElem? (i := 4) rfl)) rfl hK 0 (cI := cI) rfl hP hD hS hA (fun _ => rfl) (by decide) (by decide) (by decide) (Nat.le_of_ble_eq_true rfl) (Nat.le_of_ble_eq_true rfl) dX12_init_727 (fun q170 H hP hD hS => ?_)
  have hP : va_P (dC, dI) vwCl [(h0, .inr (12, fs_169)), (q1, .inl (cI, 4000, (.inl (fun _ => 0)))), (q3, .inl (cI, 6, (.inl (fun _ => 0)))), (q5, .inl (cI, 49152, (.inl (fun _ => 0)))), (q7, .inl (cZ, 768, (.inl (fun _ => 0)))), (q170, .inl (cI, 200, (.inl (fun _ => 0))))] H := hP
  have hD : va_D A [(h0, .inr (12, fs_169)), (q1, .inl (cI, 4000, (.inl (fun _ => 0)))), (q3, .inl (cI, 6, (.inl (fun _ => 0)))), (q5, .inl (cI, 49152, (.inl (fun _ => 0)))), (q7, .inl (cZ, 768, (.inl (fun _ => 0)))), (q170, .inl (cI, 200, (.inl (fun _ => 0))))] := hD
  refine W.widen (k := 85) (n := 694166) (by decide) (by decide) ?_
  refine va_putF (D := (dC, dI)) (ci := 12) (v := .ref q170) (ty := .array (.int)) (C := RX12) (T := TX12) (N := 172) hx hb hts inX12_init_c12 tyX12 tyX12_ok nmX12 hown hK hP hD hS 0 rfl rfl 127 (by decide) (hts (.fieldLink RX12 272 "DiskEvidenceModel" "hitMany" "[I") (List.mem_of_getElem? (i := 96) rfl)) (fun _ h9 => h9) rfl hin rfl (by decide +kernel) rfl rfl (by rw [hfl_169]; decide) dX12_init_729 (fun H locs hP hD hS => ?_)
  have hP : va_P (dC, dI) vwCl [(h0, .inr (12, (fs_169.set 127 (.ref q170)))), (q1, .inl (cI, 4000, (.inl (fun _ => 0)))), (q3, .inl (cI, 6, (.inl (fun _ => 0)))), (q5, .inl (cI, 49152, (.inl (fun _ => 0)))), (q7, .inl (cZ, 768, (.inl (fun _ => 0)))), (q170, .inl (cI, 200, (.inl (fun _ => 0))))] H := hP
  have hD : va_D A [(h0, .inr (12, (fs_169.set 127 (.ref q170)))), (q1, .inl (cI, 4000, (.inl (fun _ => 0)))), (q3, .inl (cI, 6, (.inl (fun _ => 0)))), (q5, .inl (cI, 49152, (.inl (fun _ => 0)))), (q7, .inl (cZ, 768, (.inl (fun _ => 0)))), (q170, .inl (cI, 200, (.inl (fun _ => 0))))] := hD
  obtain ⟨fs_171, efs_171⟩ : ∃ y, y = (fs_169.set 127 (.ref q170)) := ⟨_, rfl⟩
  rw [← efs_171] at hP hD
  have hfl_171 : fs_171.length = 172 := by rw [efs_171, List.length_set]; exact hfl_169
  have hP := hP.sub (ws' := [(h0, .inr (12, fs_171)), (q1, .inl (cI, 4000, (.inl (fun _ => 0)))), (q3, .inl (cI, 6, (.inl (fun _ => 0)))), (q5, .inl (cI, 49152, (.inl (fun _ => 0)))), (q7, .inl (cZ, 768, (.inl (fun _ => 0))))]) [0, 1, 2, 3, 4] rfl
  have hD := hD.sub (ws' := [(h0, .inr (12, fs_171)), (q1, .inl (cI, 4000, (.inl (fun _ => 0)))), (q3, .inl (cI, 6, (.inl (fun _ => 0)))), (q5, .inl (cI, 49152, (.inl (fun _ => 0)))), (q7, .inl (cZ, 768, (.inl (fun _ => 0))))]) [0, 1, 2, 3, 4] (by decide) rfl
  refine lv_aload_n hx hb dX12_init_732 rfl (lv_at hl 0 rfl) ?_
  refine lv_sipush (v := 4096) hx hb dX12_init_733 (by decide) ?_
  refine nw_arr (atype := .boolean) (N' := 4096) (a0 := (4096, (.inl (fun _ => 0)))) hx hb (hts (.arrayClass .boolean) (List.mem_of_getElem? (i := 9) rfl)) rfl hK 2 (cI := cZ) rfl hP hD hS hA (fun _ => rfl) (by decide) (by decide) (by decide) (Nat.le_of_ble_eq_true rfl) (Nat.le_of_ble_eq_true rfl) dX12_init_736 (fun q172 H hP hD hS => ?_)
  have hP : va_P (dC, dI) vwCl [(h0, .inr (12, fs_171)), (q1, .inl (cI, 4000, (.inl (fun _ => 0)))), (q3, .inl (cI, 6, (.inl (fun _ => 0)))), (q5, .inl (cI, 49152, (.inl (fun _ => 0)))), (q7, .inl (cZ, 768, (.inl (fun _ => 0)))), (q172, .inl (cZ, 4096, (.inl (fun _ => 0))))] H := hP
  have hD : va_D A [(h0, .inr (12, fs_171)), (q1, .inl (cI, 4000, (.inl (fun _ => 0)))), (q3, .inl (cI, 6, (.inl (fun _ => 0)))), (q5, .inl (cI, 49152, (.inl (fun _ => 0)))), (q7, .inl (cZ, 768, (.inl (fun _ => 0)))), (q172, .inl (cZ, 4096, (.inl (fun _ => 0))))] := hD
  refine W.widen (k := 86) (n := 698262) (by decide) (by decide) ?_
  refine va_putF (D := (dC, dI)) (ci := 12) (v := .ref q172) (ty := .array (.boolean)) (C := RX12) (T := TX12) (N := 172) hx hb hts inX12_init_c12 tyX12 tyX12_ok nmX12 hown hK hP hD hS 0 rfl rfl 130 (by decide) (hts (.fieldLink RX12 275 "DiskEvidenceModel" "takes" "[Z") (List.mem_of_getElem? (i := 97) rfl)) (fun _ h9 => h9) rfl hin rfl (by decide +kernel) rfl rfl (by rw [hfl_171]; decide) dX12_init_738 (fun H locs hP hD hS => ?_)
  have hP : va_P (dC, dI) vwCl [(h0, .inr (12, (fs_171.set 130 (.ref q172)))), (q1, .inl (cI, 4000, (.inl (fun _ => 0)))), (q3, .inl (cI, 6, (.inl (fun _ => 0)))), (q5, .inl (cI, 49152, (.inl (fun _ => 0)))), (q7, .inl (cZ, 768, (.inl (fun _ => 0)))), (q172, .inl (cZ, 4096, (.inl (fun _ => 0))))] H := hP
  have hD : va_D A [(h0, .inr (12, (fs_171.set 130 (.ref q172)))), (q1, .inl (cI, 4000, (.inl (fun _ => 0)))), (q3, .inl (cI, 6, (.inl (fun _ => 0)))), (q5, .inl (cI, 49152, (.inl (fun _ => 0)))), (q7, .inl (cZ, 768, (.inl (fun _ => 0)))), (q172, .inl (cZ, 4096, (.inl (fun _ => 0))))] := hD
  obtain ⟨fs_173, efs_173⟩ : ∃ y, y = (fs_171.set 130 (.ref q172)) := ⟨_, rfl⟩
  rw [← efs_173] at hP hD
  have hfl_173 : fs_173.length = 172 := by rw [efs_173, List.length_set]; exact hfl_171
  have hP := hP.sub (ws' := [(h0, .inr (12, fs_173)), (q1, .inl (cI, 4000, (.inl (fun _ => 0)))), (q3, .inl (cI, 6, (.inl (fun _ => 0)))), (q5, .inl (cI, 49152, (.inl (fun _ => 0)))), (q7, .inl (cZ, 768, (.inl (fun _ => 0))))]) [0, 1, 2, 3, 4] rfl
  have hD := hD.sub (ws' := [(h0, .inr (12, fs_173)), (q1, .inl (cI, 4000, (.inl (fun _ => 0)))), (q3, .inl (cI, 6, (.inl (fun _ => 0)))), (q5, .inl (cI, 49152, (.inl (fun _ => 0)))), (q7, .inl (cZ, 768, (.inl (fun _ => 0))))]) [0, 1, 2, 3, 4] (by decide) rfl
  refine lv_aload_n hx hb dX12_init_741 rfl (lv_at hl 0 rfl) ?_
  refine lv_bipush (v := 16) hx hb dX12_init_742 (by decide) ?_
  refine nw_arr (atype := .int) (N' := 16) (a0 := (16, (.inl (fun _ => 0)))) hx hb (hts (.arrayClass .int) (List.mem_of_getElem? (i := 4) rfl)) rfl hK 0 (cI := cI) rfl hP hD hS hA (fun _ => rfl) (by decide) (by decide) (by decide) (Nat.le_of_ble_eq_true rfl) (Nat.le_of_ble_eq_true rfl) dX12_init_744 (fun q174 H hP hD hS => ?_)
  have hP : va_P (dC, dI) vwCl [(h0, .inr (12, fs_173)), (q1, .inl (cI, 4000, (.inl (fun _ => 0)))), (q3, .inl (cI, 6, (.inl (fun _ => 0)))), (q5, .inl (cI, 49152, (.inl (fun _ => 0)))), (q7, .inl (cZ, 768, (.inl (fun _ => 0)))), (q174, .inl (cI, 16, (.inl (fun _ => 0))))] H := hP
  have hD : va_D A [(h0, .inr (12, fs_173)), (q1, .inl (cI, 4000, (.inl (fun _ => 0)))), (q3, .inl (cI, 6, (.inl (fun _ => 0)))), (q5, .inl (cI, 49152, (.inl (fun _ => 0)))), (q7, .inl (cZ, 768, (.inl (fun _ => 0)))), (q174, .inl (cI, 16, (.inl (fun _ => 0))))] := hD
  refine W.widen (k := 87) (n := 698278) (by decide) (by decide) ?_
  refine va_putF (D := (dC, dI)) (ci := 12) (v := .ref q174) (ty := .array (.int)) (C := RX12) (T := TX12) (N := 172) hx hb hts inX12_init_c12 tyX12 tyX12_ok nmX12 hown hK hP hD hS 0 rfl rfl 131 (by decide) (hts (.fieldLink RX12 278 "DiskEvidenceModel" "often" "[I") (List.mem_of_getElem? (i := 98) rfl)) (fun _ h9 => h9) rfl hin rfl (by decide +kernel) rfl rfl (by rw [hfl_173]; decide) dX12_init_746 (fun H locs hP hD hS => ?_)
  have hP : va_P (dC, dI) vwCl [(h0, .inr (12, (fs_173.set 131 (.ref q174)))), (q1, .inl (cI, 4000, (.inl (fun _ => 0)))), (q3, .inl (cI, 6, (.inl (fun _ => 0)))), (q5, .inl (cI, 49152, (.inl (fun _ => 0)))), (q7, .inl (cZ, 768, (.inl (fun _ => 0)))), (q174, .inl (cI, 16, (.inl (fun _ => 0))))] H := hP
  have hD : va_D A [(h0, .inr (12, (fs_173.set 131 (.ref q174)))), (q1, .inl (cI, 4000, (.inl (fun _ => 0)))), (q3, .inl (cI, 6, (.inl (fun _ => 0)))), (q5, .inl (cI, 49152, (.inl (fun _ => 0)))), (q7, .inl (cZ, 768, (.inl (fun _ => 0)))), (q174, .inl (cI, 16, (.inl (fun _ => 0))))] := hD
  obtain ⟨fs_175, efs_175⟩ : ∃ y, y = (fs_173.set 131 (.ref q174)) := ⟨_, rfl⟩
  rw [← efs_175] at hP hD
  have hfl_175 : fs_175.length = 172 := by rw [efs_175, List.length_set]; exact hfl_173
  have hP := hP.sub (ws' := [(h0, .inr (12, fs_175)), (q1, .inl (cI, 4000, (.inl (fun _ => 0)))), (q3, .inl (cI, 6, (.inl (fun _ => 0)))), (q5, .inl (cI, 49152, (.inl (fun _ => 0)))), (q7, .inl (cZ, 768, (.inl (fun _ => 0))))]) [0, 1, 2, 3, 4] rfl
  have hD := hD.sub (ws' := [(h0, .inr (12, fs_175)), (q1, .inl (cI, 4000, (.inl (fun _ => 0)))), (q3, .inl (cI, 6, (.inl (fun _ => 0)))), (q5, .inl (cI, 49152, (.inl (fun _ => 0)))), (q7, .inl (cZ, 768, (.inl (fun _ => 0))))]) [0, 1, 2, 3, 4] (by decide) rfl
  refine lv_aload_n hx hb dX12_init_749 rfl (lv_at hl 0 rfl) ?_
  refine lv_bipush (v := 66) hx hb dX12_init_750 (by decide) ?_
  refine nw_arr (atype := .char) (N' := 66) (a0 := (66, (.inl (fun _ => 0)))) hx hb (hts (.arrayClass .char) (List.mem_of_getElem? (i := 99) rfl)) rfl hK 4 (cI := cC) rfl hP hD hS hA (fun _ => rfl) (by decide) (by decide) (by decide) (Nat.le_of_ble_eq_true rfl) (Nat.le_of_ble_eq_true rfl) dX12_init_752 (fun q176 H hP hD hS => ?_)
  have hP : va_P (dC, dI) vwCl [(h0, .inr (12, fs_175)), (q1, .inl (cI, 4000, (.inl (fun _ => 0)))), (q3, .inl (cI, 6, (.inl (fun _ => 0)))), (q5, .inl (cI, 49152, (.inl (fun _ => 0)))), (q7, .inl (cZ, 768, (.inl (fun _ => 0)))), (q176, .inl (cC, 66, (.inl (fun _ => 0))))] H := hP
  have hD : va_D A [(h0, .inr (12, fs_175)), (q1, .inl (cI, 4000, (.inl (fun _ => 0)))), (q3, .inl (cI, 6, (.inl (fun _ => 0)))), (q5, .inl (cI, 49152, (.inl (fun _ => 0)))), (q7, .inl (cZ, 768, (.inl (fun _ => 0)))), (q176, .inl (cC, 66, (.inl (fun _ => 0))))] := hD
  refine W.widen (k := 88) (n := 698344) (by decide) (by decide) ?_
  refine lv_dup hx hb dX12_init_754 rfl ?_
  refine lv_iconst (v := 0) hx hb dX12_init_755 (by decide) ?_
  refine lv_bipush (v := 107) hx hb dX12_init_756 (by decide) ?_
  refine va_cast hx hb hK hP hD hS 5 4 rfl rfl (vp_in_nI (n := 0) (N := 66) (by decide) (by decide)) dX12_init_758 (fun H locs hP hD hS => ?_)
  obtain ⟨g_177, eg_177⟩ : ∃ y, y = upd (fun _ => 0) (0 : Int32).toNatClampNeg (vp_nar .char 107) := ⟨_, rfl⟩
  rw [← eg_177] at hP hD
  clear eg_177
  have hP : va_P (dC, dI) vwCl [(h0, .inr (12, fs_175)), (q1, .inl (cI, 4000, (.inl (fun _ => 0)))), (q3, .inl (cI, 6, (.inl (fun _ => 0)))), (q5, .inl (cI, 49152, (.inl (fun _ => 0)))), (q7, .inl (cZ, 768, (.inl (fun _ => 0)))), (q176, .inl (cC, 66, (.inl (g_177))))] H := hP
  have hD : va_D A [(h0, .inr (12, fs_175)), (q1, .inl (cI, 4000, (.inl (fun _ => 0)))), (q3, .inl (cI, 6, (.inl (fun _ => 0)))), (q5, .inl (cI, 49152, (.inl (fun _ => 0)))), (q7, .inl (cZ, 768, (.inl (fun _ => 0)))), (q176, .inl (cC, 66, (.inl (g_177))))] := hD
  refine lv_dup hx hb dX12_init_759 rfl ?_
  refine lv_iconst (v := 1) hx hb dX12_init_760 (by decide) ?_
  refine lv_bipush (v := 105) hx hb dX12_init_761 (by decide) ?_
  refine va_cast hx hb hK hP hD hS 5 4 rfl rfl (vp_in_nI (n := 1) (N := 66) (by decide) (by decide)) dX12_init_763 (fun H locs hP hD hS => ?_)
  obtain ⟨g_178, eg_178⟩ : ∃ y, y = upd (g_177) (1 : Int32).toNatClampNeg (vp_nar .char 105) := ⟨_, rfl⟩
  rw [← eg_178] at hP hD
  clear eg_178
  have hP : va_P (dC, dI) vwCl [(h0, .inr (12, fs_175)), (q1, .inl (cI, 4000, (.inl (fun _ => 0)))), (q3, .inl (cI, 6, (.inl (fun _ => 0)))), (q5, .inl (cI, 49152, (.inl (fun _ => 0)))), (q7, .inl (cZ, 768, (.inl (fun _ => 0)))), (q176, .inl (cC, 66, (.inl (g_178))))] H := hP
  have hD : va_D A [(h0, .inr (12, fs_175)), (q1, .inl (cI, 4000, (.inl (fun _ => 0)))), (q3, .inl (cI, 6, (.inl (fun _ => 0)))), (q5, .inl (cI, 49152, (.inl (fun _ => 0)))), (q7, .inl (cZ, 768, (.inl (fun _ => 0)))), (q176, .inl (cC, 66, (.inl (g_178))))] := hD
  refine lv_dup hx hb dX12_init_764 rfl ?_
  refine lv_iconst (v := 2) hx hb dX12_init_765 (by decide) ?_
  refine lv_bipush (v := 110) hx hb dX12_init_766 (by decide) ?_
  refine va_cast hx hb hK hP hD hS 5 4 rfl rfl (vp_in_nI (n := 2) (N := 66) (by decide) (by decide)) dX12_init_768 (fun H locs hP hD hS => ?_)
  obtain ⟨g_179, eg_179⟩ : ∃ y, y = upd (g_178) (2 : Int32).toNatClampNeg (vp_nar .char 110) := ⟨_, rfl⟩
  rw [← eg_179] at hP hD
  clear eg_179
  have hP : va_P (dC, dI) vwCl [(h0, .inr (12, fs_175)), (q1, .inl (cI, 4000, (.inl (fun _ => 0)))), (q3, .inl (cI, 6, (.inl (fun _ => 0)))), (q5, .inl (cI, 49152, (.inl (fun _ => 0)))), (q7, .inl (cZ, 768, (.inl (fun _ => 0)))), (q176, .inl (cC, 66, (.inl (g_179))))] H := hP
  have hD : va_D A [(h0, .inr (12, fs_175)), (q1, .inl (cI, 4000, (.inl (fun _ => 0)))), (q3, .inl (cI, 6, (.inl (fun _ => 0)))), (q5, .inl (cI, 49152, (.inl (fun _ => 0)))), (q7, .inl (cZ, 768, (.inl (fun _ => 0)))), (q176, .inl (cC, 66, (.inl (g_179))))] := hD
  refine lv_dup hx hb dX12_init_769 rfl ?_
  refine lv_iconst (v := 3) hx hb dX12_init_770 (by decide) ?_
  refine lv_bipush (v := 100) hx hb dX12_init_771 (by decide) ?_
  refine va_cast hx hb hK hP hD hS 5 4 rfl rfl (vp_in_nI (n := 3) (N := 66) (by decide) (by decide)) dX12_init_773 (fun H locs hP hD hS => ?_)
  obtain ⟨g_180, eg_180⟩ : ∃ y, y = upd (g_179) (3 : Int32).toNatClampNeg (vp_nar .char 100) := ⟨_, rfl⟩
  rw [← eg_180] at hP hD
  clear eg_180
  have hP : va_P (dC, dI) vwCl [(h0, .inr (12, fs_175)), (q1, .inl (cI, 4000, (.inl (fun _ => 0)))), (q3, .inl (cI, 6, (.inl (fun _ => 0)))), (q5, .inl (cI, 49152, (.inl (fun _ => 0)))), (q7, .inl (cZ, 768, (.inl (fun _ => 0)))), (q176, .inl (cC, 66, (.inl (g_180))))] H := hP
  have hD : va_D A [(h0, .inr (12, fs_175)), (q1, .inl (cI, 4000, (.inl (fun _ => 0)))), (q3, .inl (cI, 6, (.inl (fun _ => 0)))), (q5, .inl (cI, 49152, (.inl (fun _ => 0)))), (q7, .inl (cZ, 768, (.inl (fun _ => 0)))), (q176, .inl (cC, 66, (.inl (g_180))))] := hD
  refine lv_dup hx hb dX12_init_774 rfl ?_
  refine lv_iconst (v := 4) hx hb dX12_init_775 (by decide) ?_
  refine lv_bipush (v := 32) hx hb dX12_init_776 (by decide) ?_
  refine va_cast hx hb hK hP hD hS 5 4 rfl rfl (vp_in_nI (n := 4) (N := 66) (by decide) (by decide)) dX12_init_778 (fun H locs hP hD hS => ?_)
  obtain ⟨g_181, eg_181⟩ : ∃ y, y = upd (g_180) (4 : Int32).toNatClampNeg (vp_nar .char 32) := ⟨_, rfl⟩
  rw [← eg_181] at hP hD
  clear eg_181
  have hP : va_P (dC, dI) vwCl [(h0, .inr (12, fs_175)), (q1, .inl (cI, 4000, (.inl (fun _ => 0)))), (q3, .inl (cI, 6, (.inl (fun _ => 0)))), (q5, .inl (cI, 49152, (.inl (fun _ => 0)))), (q7, .inl (cZ, 768, (.inl (fun _ => 0)))), (q176, .inl (cC, 66, (.inl (g_181))))] H := hP
  have hD : va_D A [(h0, .inr (12, fs_175)), (q1, .inl (cI, 4000, (.inl (fun _ => 0)))), (q3, .inl (cI, 6, (.inl (fun _ => 0)))), (q5, .inl (cI, 49152, (.inl (fun _ => 0)))), (q7, .inl (cZ, 768, (.inl (fun _ => 0)))), (q176, .inl (cC, 66, (.inl (g_181))))] := hD
  refine lv_dup hx hb dX12_init_779 rfl ?_
  refine lv_iconst (v := 5) hx hb dX12_init_780 (by decide) ?_
  refine lv_bipush (v := 115) hx hb dX12_init_781 (by decide) ?_
  refine va_cast hx hb hK hP hD hS 5 4 rfl rfl (vp_in_nI (n := 5) (N := 66) (by decide) (by decide)) dX12_init_783 (fun H locs hP hD hS => ?_)
  obtain ⟨g_182, eg_182⟩ : ∃ y, y = upd (g_181) (5 : Int32).toNatClampNeg (vp_nar .char 115) := ⟨_, rfl⟩
  rw [← eg_182] at hP hD
  clear eg_182
  have hP : va_P (dC, dI) vwCl [(h0, .inr (12, fs_175)), (q1, .inl (cI, 4000, (.inl (fun _ => 0)))), (q3, .inl (cI, 6, (.inl (fun _ => 0)))), (q5, .inl (cI, 49152, (.inl (fun _ => 0)))), (q7, .inl (cZ, 768, (.inl (fun _ => 0)))), (q176, .inl (cC, 66, (.inl (g_182))))] H := hP
  have hD : va_D A [(h0, .inr (12, fs_175)), (q1, .inl (cI, 4000, (.inl (fun _ => 0)))), (q3, .inl (cI, 6, (.inl (fun _ => 0)))), (q5, .inl (cI, 49152, (.inl (fun _ => 0)))), (q7, .inl (cZ, 768, (.inl (fun _ => 0)))), (q176, .inl (cC, 66, (.inl (g_182))))] := hD
  refine lv_dup hx hb dX12_init_784 rfl ?_
  refine lv_bipush (v := 6) hx hb dX12_init_785 (by decide) ?_
  refine lv_bipush (v := 105) hx hb dX12_init_787 (by decide) ?_
  refine va_cast hx hb hK hP hD hS 5 4 rfl rfl (vp_in_nI (n := 6) (N := 66) (by decide) (by decide)) dX12_init_789 (fun H locs hP hD hS => ?_)
  obtain ⟨g_183, eg_183⟩ : ∃ y, y = upd (g_182) (6 : Int32).toNatClampNeg (vp_nar .char 105) := ⟨_, rfl⟩
  rw [← eg_183] at hP hD
  clear eg_183
  have hP : va_P (dC, dI) vwCl [(h0, .inr (12, fs_175)), (q1, .inl (cI, 4000, (.inl (fun _ => 0)))), (q3, .inl (cI, 6, (.inl (fun _ => 0)))), (q5, .inl (cI, 49152, (.inl (fun _ => 0)))), (q7, .inl (cZ, 768, (.inl (fun _ => 0)))), (q176, .inl (cC, 66, (.inl (g_183))))] H := hP
  have hD : va_D A [(h0, .inr (12, fs_175)), (q1, .inl (cI, 4000, (.inl (fun _ => 0)))), (q3, .inl (cI, 6, (.inl (fun _ => 0)))), (q5, .inl (cI, 49152, (.inl (fun _ => 0)))), (q7, .inl (cZ, 768, (.inl (fun _ => 0)))), (q176, .inl (cC, 66, (.inl (g_183))))] := hD
  refine lv_dup hx hb dX12_init_790 rfl ?_
  refine lv_bipush (v := 7) hx hb dX12_init_791 (by decide) ?_
  refine lv_bipush (v := 122) hx hb dX12_init_793 (by decide) ?_
  refine va_cast hx hb hK hP hD hS 5 4 rfl rfl (vp_in_nI (n := 7) (N := 66) (by decide) (by decide)) dX12_init_795 (fun H locs hP hD hS => ?_)
  obtain ⟨g_184, eg_184⟩ : ∃ y, y = upd (g_183) (7 : Int32).toNatClampNeg (vp_nar .char 122) := ⟨_, rfl⟩
  rw [← eg_184] at hP hD
  clear eg_184
  have hP : va_P (dC, dI) vwCl [(h0, .inr (12, fs_175)), (q1, .inl (cI, 4000, (.inl (fun _ => 0)))), (q3, .inl (cI, 6, (.inl (fun _ => 0)))), (q5, .inl (cI, 49152, (.inl (fun _ => 0)))), (q7, .inl (cZ, 768, (.inl (fun _ => 0)))), (q176, .inl (cC, 66, (.inl (g_184))))] H := hP
  have hD : va_D A [(h0, .inr (12, fs_175)), (q1, .inl (cI, 4000, (.inl (fun _ => 0)))), (q3, .inl (cI, 6, (.inl (fun _ => 0)))), (q5, .inl (cI, 49152, (.inl (fun _ => 0)))), (q7, .inl (cZ, 768, (.inl (fun _ => 0)))), (q176, .inl (cC, 66, (.inl (g_184))))] := hD
  refine lv_dup hx hb dX12_init_796 rfl ?_
  refine lv_bipush (v := 8) hx hb dX12_init_797 (by decide) ?_
  refine lv_bipush (v := 101) hx hb dX12_init_799 (by decide) ?_
  refine va_cast hx hb hK hP hD hS 5 4 rfl rfl (vp_in_nI (n := 8) (N := 66) (by decide) (by decide)) dX12_init_801 (fun H locs hP hD hS => ?_)
  obtain ⟨g_185, eg_185⟩ : ∃ y, y = upd (g_184) (8 : Int32).toNatClampNeg (vp_nar .char 101) := ⟨_, rfl⟩
  rw [← eg_185] at hP hD
  clear eg_185
  have hP : va_P (dC, dI) vwCl [(h0, .inr (12, fs_175)), (q1, .inl (cI, 4000, (.inl (fun _ => 0)))), (q3, .inl (cI, 6, (.inl (fun _ => 0)))), (q5, .inl (cI, 49152, (.inl (fun _ => 0)))), (q7, .inl (cZ, 768, (.inl (fun _ => 0)))), (q176, .inl (cC, 66, (.inl (g_185))))] H := hP
  have hD : va_D A [(h0, .inr (12, fs_175)), (q1, .inl (cI, 4000, (.inl (fun _ => 0)))), (q3, .inl (cI, 6, (.inl (fun _ => 0)))), (q5, .inl (cI, 49152, (.inl (fun _ => 0)))), (q7, .inl (cZ, 768, (.inl (fun _ => 0)))), (q176, .inl (cC, 66, (.inl (g_185))))] := hD
  refine lv_dup hx hb dX12_init_802 rfl ?_
  refine lv_bipush (v := 9) hx hb dX12_init_803 (by decide) ?_
  refine lv_bipush (v := 32) hx hb dX12_init_805 (by decide) ?_
  refine va_cast hx hb hK hP hD hS 5 4 rfl rfl (vp_in_nI (n := 9) (N := 66) (by decide) (by decide)) dX12_init_807 (fun H locs hP hD hS => ?_)
  obtain ⟨g_186, eg_186⟩ : ∃ y, y = upd (g_185) (9 : Int32).toNatClampNeg (vp_nar .char 32) := ⟨_, rfl⟩
  rw [← eg_186] at hP hD
  clear eg_186
  have hP : va_P (dC, dI) vwCl [(h0, .inr (12, fs_175)), (q1, .inl (cI, 4000, (.inl (fun _ => 0)))), (q3, .inl (cI, 6, (.inl (fun _ => 0)))), (q5, .inl (cI, 49152, (.inl (fun _ => 0)))), (q7, .inl (cZ, 768, (.inl (fun _ => 0)))), (q176, .inl (cC, 66, (.inl (g_186))))] H := hP
  have hD : va_D A [(h0, .inr (12, fs_175)), (q1, .inl (cI, 4000, (.inl (fun _ => 0)))), (q3, .inl (cI, 6, (.inl (fun _ => 0)))), (q5, .inl (cI, 49152, (.inl (fun _ => 0)))), (q7, .inl (cZ, 768, (.inl (fun _ => 0)))), (q176, .inl (cC, 66, (.inl (g_186))))] := hD
  refine lv_dup hx hb dX12_init_808 rfl ?_
  refine lv_bipush (v := 10) hx hb dX12_init_809 (by decide) ?_
  refine lv_bipush (v := 109) hx hb dX12_init_811 (by decide) ?_
  refine va_cast hx hb hK hP hD hS 5 4 rfl rfl (vp_in_nI (n := 10) (N := 66) (by decide) (by decide)) dX12_init_813 (fun H locs hP hD hS => ?_)
  obtain ⟨g_187, eg_187⟩ : ∃ y, y = upd (g_186) (10 : Int32).toNatClampNeg (vp_nar .char 109) := ⟨_, rfl⟩
  rw [← eg_187] at hP hD
  clear eg_187
  have hP : va_P (dC, dI) vwCl [(h0, .inr (12, fs_175)), (q1, .inl (cI, 4000, (.inl (fun _ => 0)))), (q3, .inl (cI, 6, (.inl (fun _ => 0)))), (q5, .inl (cI, 49152, (.inl (fun _ => 0)))), (q7, .inl (cZ, 768, (.inl (fun _ => 0)))), (q176, .inl (cC, 66, (.inl (g_187))))] H := hP
  have hD : va_D A [(h0, .inr (12, fs_175)), (q1, .inl (cI, 4000, (.inl (fun _ => 0)))), (q3, .inl (cI, 6, (.inl (fun _ => 0)))), (q5, .inl (cI, 49152, (.inl (fun _ => 0)))), (q7, .inl (cZ, 768, (.inl (fun _ => 0)))), (q176, .inl (cC, 66, (.inl (g_187))))] := hD
  refine lv_dup hx hb dX12_init_814 rfl ?_
  refine lv_bipush (v := 11) hx hb dX12_init_815 (by decide) ?_
  refine lv_bipush (v := 97) hx hb dX12_init_817 (by decide) ?_
  refine va_cast hx hb hK hP hD hS 5 4 rfl rfl (vp_in_nI (n := 11) (N := 66) (by decide) (by decide)) dX12_init_819 (fun H locs hP hD hS => ?_)
  obtain ⟨g_188, eg_188⟩ : ∃ y, y = upd (g_187) (11 : Int32).toNatClampNeg (vp_nar .char 97) := ⟨_, rfl⟩
  rw [← eg_188] at hP hD
  clear eg_188
  have hP : va_P (dC, dI) vwCl [(h0, .inr (12, fs_175)), (q1, .inl (cI, 4000, (.inl (fun _ => 0)))), (q3, .inl (cI, 6, (.inl (fun _ => 0)))), (q5, .inl (cI, 49152, (.inl (fun _ => 0)))), (q7, .inl (cZ, 768, (.inl (fun _ => 0)))), (q176, .inl (cC, 66, (.inl (g_188))))] H := hP
  have hD : va_D A [(h0, .inr (12, fs_175)), (q1, .inl (cI, 4000, (.inl (fun _ => 0)))), (q3, .inl (cI, 6, (.inl (fun _ => 0)))), (q5, .inl (cI, 49152, (.inl (fun _ => 0)))), (q7, .inl (cZ, 768, (.inl (fun _ => 0)))), (q176, .inl (cC, 66, (.inl (g_188))))] := hD
  refine lv_dup hx hb dX12_init_820 rfl ?_
  refine lv_bipush (v := 12) hx hb dX12_init_821 (by decide) ?_
  refine lv_bipush (v := 100) hx hb dX12_init_823 (by decide) ?_
  refine va_cast hx hb hK hP hD hS 5 4 rfl rfl (vp_in_nI (n := 12) (N := 66) (by decide) (by decide)) dX12_init_825 (fun H locs hP hD hS => ?_)
  obtain ⟨g_189, eg_189⟩ : ∃ y, y = upd (g_188) (12 : Int32).toNatClampNeg (vp_nar .char 100) := ⟨_, rfl⟩
  rw [← eg_189] at hP hD
  clear eg_189
  have hP : va_P (dC, dI) vwCl [(h0, .inr (12, fs_175)), (q1, .inl (cI, 4000, (.inl (fun _ => 0)))), (q3, .inl (cI, 6, (.inl (fun _ => 0)))), (q5, .inl (cI, 49152, (.inl (fun _ => 0)))), (q7, .inl (cZ, 768, (.inl (fun _ => 0)))), (q176, .inl (cC, 66, (.inl (g_189))))] H := hP
  have hD : va_D A [(h0, .inr (12, fs_175)), (q1, .inl (cI, 4000, (.inl (fun _ => 0)))), (q3, .inl (cI, 6, (.inl (fun _ => 0)))), (q5, .inl (cI, 49152, (.inl (fun _ => 0)))), (q7, .inl (cZ, 768, (.inl (fun _ => 0)))), (q176, .inl (cC, 66, (.inl (g_189))))] := hD
  refine lv_dup hx hb dX12_init_826 rfl ?_
  refine lv_bipush (v := 13) hx hb dX12_init_827 (by decide) ?_
  refine lv_bipush (v := 101) hx hb dX12_init_829 (by decide) ?_
  refine va_cast hx hb hK hP hD hS 5 4 rfl rfl (vp_in_nI (n := 13) (N := 66) (by decide) (by decide)) dX12_init_831 (fun H locs hP hD hS => ?_)
  obtain ⟨g_190, eg_190⟩ : ∃ y, y = upd (g_189) (13 : Int32).toNatClampNeg (vp_nar .char 101) := ⟨_, rfl⟩
  rw [← eg_190] at hP hD
  clear eg_190
  have hP : va_P (dC, dI) vwCl [(h0, .inr (12, fs_175)), (q1, .inl (cI, 4000, (.inl (fun _ => 0)))), (q3, .inl (cI, 6, (.inl (fun _ => 0)))), (q5, .inl (cI, 49152, (.inl (fun _ => 0)))), (q7, .inl (cZ, 768, (.inl (fun _ => 0)))), (q176, .inl (cC, 66, (.inl (g_190))))] H := hP
  have hD : va_D A [(h0, .inr (12, fs_175)), (q1, .inl (cI, 4000, (.inl (fun _ => 0)))), (q3, .inl (cI, 6, (.inl (fun _ => 0)))), (q5, .inl (cI, 49152, (.inl (fun _ => 0)))), (q7, .inl (cZ, 768, (.inl (fun _ => 0)))), (q176, .inl (cC, 66, (.inl (g_190))))] := hD
  refine lv_dup hx hb dX12_init_832 rfl ?_
  refine lv_bipush (v := 14) hx hb dX12_init_833 (by decide) ?_
  refine lv_bipush (v := 32) hx hb dX12_init_835 (by decide) ?_
  refine va_cast hx hb hK hP hD hS 5 4 rfl rfl (vp_in_nI (n := 14) (N := 66) (by decide) (by decide)) dX12_init_837 (fun H locs hP hD hS => ?_)
  obtain ⟨g_191, eg_191⟩ : ∃ y, y = upd (g_190) (14 : Int32).toNatClampNeg (vp_nar .char 32) := ⟨_, rfl⟩
  rw [← eg_191] at hP hD
  clear eg_191
  have hP : va_P (dC, dI) vwCl [(h0, .inr (12, fs_175)), (q1, .inl (cI, 4000, (.inl (fun _ => 0)))), (q3, .inl (cI, 6, (.inl (fun _ => 0)))), (q5, .inl (cI, 49152, (.inl (fun _ => 0)))), (q7, .inl (cZ, 768, (.inl (fun _ => 0)))), (q176, .inl (cC, 66, (.inl (g_191))))] H := hP
  have hD : va_D A [(h0, .inr (12, fs_175)), (q1, .inl (cI, 4000, (.inl (fun _ => 0)))), (q3, .inl (cI, 6, (.inl (fun _ => 0)))), (q5, .inl (cI, 49152, (.inl (fun _ => 0)))), (q7, .inl (cZ, 768, (.inl (fun _ => 0)))), (q176, .inl (cC, 66, (.inl (g_191))))] := hD
  refine lv_dup hx hb dX12_init_838 rfl ?_
  refine lv_bipush (v := 15) hx hb dX12_init_839 (by decide) ?_
  refine lv_bipush (v := 97) hx hb dX12_init_841 (by decide) ?_
  refine va_cast hx hb hK hP hD hS 5 4 rfl rfl (vp_in_nI (n := 15) (N := 66) (by decide) (by decide)) dX12_init_843 (fun H locs hP hD hS => ?_)
  obtain ⟨g_192, eg_192⟩ : ∃ y, y = upd (g_191) (15 : Int32).toNatClampNeg (vp_nar .char 97) := ⟨_, rfl⟩
  rw [← eg_192] at hP hD
  clear eg_192
  have hP : va_P (dC, dI) vwCl [(h0, .inr (12, fs_175)), (q1, .inl (cI, 4000, (.inl (fun _ => 0)))), (q3, .inl (cI, 6, (.inl (fun _ => 0)))), (q5, .inl (cI, 49152, (.inl (fun _ => 0)))), (q7, .inl (cZ, 768, (.inl (fun _ => 0)))), (q176, .inl (cC, 66, (.inl (g_192))))] H := hP
  have hD : va_D A [(h0, .inr (12, fs_175)), (q1, .inl (cI, 4000, (.inl (fun _ => 0)))), (q3, .inl (cI, 6, (.inl (fun _ => 0)))), (q5, .inl (cI, 49152, (.inl (fun _ => 0)))), (q7, .inl (cZ, 768, (.inl (fun _ => 0)))), (q176, .inl (cC, 66, (.inl (g_192))))] := hD
  refine lv_dup hx hb dX12_init_844 rfl ?_
  refine lv_bipush (v := 16) hx hb dX12_init_845 (by decide) ?_
  refine lv_bipush (v := 108) hx hb dX12_init_847 (by decide) ?_
  refine va_cast hx hb hK hP hD hS 5 4 rfl rfl (vp_in_nI (n := 16) (N := 66) (by decide) (by decide)) dX12_init_849 (fun H locs hP hD hS => ?_)
  obtain ⟨g_193, eg_193⟩ : ∃ y, y = upd (g_192) (16 : Int32).toNatClampNeg (vp_nar .char 108) := ⟨_, rfl⟩
  rw [← eg_193] at hP hD
  clear eg_193
  have hP : va_P (dC, dI) vwCl [(h0, .inr (12, fs_175)), (q1, .inl (cI, 4000, (.inl (fun _ => 0)))), (q3, .inl (cI, 6, (.inl (fun _ => 0)))), (q5, .inl (cI, 49152, (.inl (fun _ => 0)))), (q7, .inl (cZ, 768, (.inl (fun _ => 0)))), (q176, .inl (cC, 66, (.inl (g_193))))] H := hP
  have hD : va_D A [(h0, .inr (12, fs_175)), (q1, .inl (cI, 4000, (.inl (fun _ => 0)))), (q3, .inl (cI, 6, (.inl (fun _ => 0)))), (q5, .inl (cI, 49152, (.inl (fun _ => 0)))), (q7, .inl (cZ, 768, (.inl (fun _ => 0)))), (q176, .inl (cC, 66, (.inl (g_193))))] := hD
  refine lv_dup hx hb dX12_init_850 rfl ?_
  refine lv_bipush (v := 17) hx hb dX12_init_851 (by decide) ?_
  refine lv_bipush (v := 116) hx hb dX12_init_853 (by decide) ?_
  refine va_cast hx hb hK hP hD hS 5 4 rfl rfl (vp_in_nI (n := 17) (N := 66) (by decide) (by decide)) dX12_init_855 (fun H locs hP hD hS => ?_)
  obtain ⟨g_194, eg_194⟩ : ∃ y, y = upd (g_193) (17 : Int32).toNatClampNeg (vp_nar .char 116) := ⟨_, rfl⟩
  rw [← eg_194] at hP hD
  clear eg_194
  have hP : va_P (dC, dI) vwCl [(h0, .inr (12, fs_175)), (q1, .inl (cI, 4000, (.inl (fun _ => 0)))), (q3, .inl (cI, 6, (.inl (fun _ => 0)))), (q5, .inl (cI, 49152, (.inl (fun _ => 0)))), (q7, .inl (cZ, 768, (.inl (fun _ => 0)))), (q176, .inl (cC, 66, (.inl (g_194))))] H := hP
  have hD : va_D A [(h0, .inr (12, fs_175)), (q1, .inl (cI, 4000, (.inl (fun _ => 0)))), (q3, .inl (cI, 6, (.inl (fun _ => 0)))), (q5, .inl (cI, 49152, (.inl (fun _ => 0)))), (q7, .inl (cZ, 768, (.inl (fun _ => 0)))), (q176, .inl (cC, 66, (.inl (g_194))))] := hD
  refine lv_dup hx hb dX12_init_856 rfl ?_
  refine lv_bipush (v := 18) hx hb dX12_init_857 (by decide) ?_
  refine lv_bipush (v := 101) hx hb dX12_init_859 (by decide) ?_
  refine va_cast hx hb hK hP hD hS 5 4 rfl rfl (vp_in_nI (n := 18) (N := 66) (by decide) (by decide)) dX12_init_861 (fun H locs hP hD hS => ?_)
  obtain ⟨g_195, eg_195⟩ : ∃ y, y = upd (g_194) (18 : Int32).toNatClampNeg (vp_nar .char 101) := ⟨_, rfl⟩
  rw [← eg_195] at hP hD
  clear eg_195
  have hP : va_P (dC, dI) vwCl [(h0, .inr (12, fs_175)), (q1, .inl (cI, 4000, (.inl (fun _ => 0)))), (q3, .inl (cI, 6, (.inl (fun _ => 0)))), (q5, .inl (cI, 49152, (.inl (fun _ => 0)))), (q7, .inl (cZ, 768, (.inl (fun _ => 0)))), (q176, .inl (cC, 66, (.inl (g_195))))] H := hP
  have hD : va_D A [(h0, .inr (12, fs_175)), (q1, .inl (cI, 4000, (.inl (fun _ => 0)))), (q3, .inl (cI, 6, (.inl (fun _ => 0)))), (q5, .inl (cI, 49152, (.inl (fun _ => 0)))), (q7, .inl (cZ, 768, (.inl (fun _ => 0)))), (q176, .inl (cC, 66, (.inl (g_195))))] := hD
  refine lv_dup hx hb dX12_init_862 rfl ?_
  refine lv_bipush (v := 19) hx hb dX12_init_863 (by decide) ?_
  refine lv_bipush (v := 114) hx hb dX12_init_865 (by decide) ?_
  refine va_cast hx hb hK hP hD hS 5 4 rfl rfl (vp_in_nI (n := 19) (N := 66) (by decide) (by decide)) dX12_init_867 (fun H locs hP hD hS => ?_)
  obtain ⟨g_196, eg_196⟩ : ∃ y, y = upd (g_195) (19 : Int32).toNatClampNeg (vp_nar .char 114) := ⟨_, rfl⟩
  rw [← eg_196] at hP hD
  clear eg_196
  have hP : va_P (dC, dI) vwCl [(h0, .inr (12, fs_175)), (q1, .inl (cI, 4000, (.inl (fun _ => 0)))), (q3, .inl (cI, 6, (.inl (fun _ => 0)))), (q5, .inl (cI, 49152, (.inl (fun _ => 0)))), (q7, .inl (cZ, 768, (.inl (fun _ => 0)))), (q176, .inl (cC, 66, (.inl (g_196))))] H := hP
  have hD : va_D A [(h0, .inr (12, fs_175)), (q1, .inl (cI, 4000, (.inl (fun _ => 0)))), (q3, .inl (cI, 6, (.inl (fun _ => 0)))), (q5, .inl (cI, 49152, (.inl (fun _ => 0)))), (q7, .inl (cZ, 768, (.inl (fun _ => 0)))), (q176, .inl (cC, 66, (.inl (g_196))))] := hD
  refine lv_dup hx hb dX12_init_868 rfl ?_
  refine lv_bipush (v := 20) hx hb dX12_init_869 (by decide) ?_
  refine lv_bipush (v := 101) hx hb dX12_init_871 (by decide) ?_
  refine va_cast hx hb hK hP hD hS 5 4 rfl rfl (vp_in_nI (n := 20) (N := 66) (by decide) (by decide)) dX12_init_873 (fun H locs hP hD hS => ?_)
  obtain ⟨g_197, eg_197⟩ : ∃ y, y = upd (g_196) (20 : Int32).toNatClampNeg (vp_nar .char 101) := ⟨_, rfl⟩
  rw [← eg_197] at hP hD
  clear eg_197
  have hP : va_P (dC, dI) vwCl [(h0, .inr (12, fs_175)), (q1, .inl (cI, 4000, (.inl (fun _ => 0)))), (q3, .inl (cI, 6, (.inl (fun _ => 0)))), (q5, .inl (cI, 49152, (.inl (fun _ => 0)))), (q7, .inl (cZ, 768, (.inl (fun _ => 0)))), (q176, .inl (cC, 66, (.inl (g_197))))] H := hP
  have hD : va_D A [(h0, .inr (12, fs_175)), (q1, .inl (cI, 4000, (.inl (fun _ => 0)))), (q3, .inl (cI, 6, (.inl (fun _ => 0)))), (q5, .inl (cI, 49152, (.inl (fun _ => 0)))), (q7, .inl (cZ, 768, (.inl (fun _ => 0)))), (q176, .inl (cC, 66, (.inl (g_197))))] := hD
  refine lv_dup hx hb dX12_init_874 rfl ?_
  refine lv_bipush (v := 21) hx hb dX12_init_875 (by decide) ?_
  refine lv_bipush (v := 100) hx hb dX12_init_877 (by decide) ?_
  refine va_cast hx hb hK hP hD hS 5 4 rfl rfl (vp_in_nI (n := 21) (N := 66) (by decide) (by decide)) dX12_init_879 (fun H locs hP hD hS => ?_)
  obtain ⟨g_198, eg_198⟩ : ∃ y, y = upd (g_197) (21 : Int32).toNatClampNeg (vp_nar .char 100) := ⟨_, rfl⟩
  rw [← eg_198] at hP hD
  clear eg_198
  have hP : va_P (dC, dI) vwCl [(h0, .inr (12, fs_175)), (q1, .inl (cI, 4000, (.inl (fun _ => 0)))), (q3, .inl (cI, 6, (.inl (fun _ => 0)))), (q5, .inl (cI, 49152, (.inl (fun _ => 0)))), (q7, .inl (cZ, 768, (.inl (fun _ => 0)))), (q176, .inl (cC, 66, (.inl (g_198))))] H := hP
  have hD : va_D A [(h0, .inr (12, fs_175)), (q1, .inl (cI, 4000, (.inl (fun _ => 0)))), (q3, .inl (cI, 6, (.inl (fun _ => 0)))), (q5, .inl (cI, 49152, (.inl (fun _ => 0)))), (q7, .inl (cZ, 768, (.inl (fun _ => 0)))), (q176, .inl (cC, 66, (.inl (g_198))))] := hD
  refine lv_dup hx hb dX12_init_880 rfl ?_
  refine lv_bipush (v := 22) hx hb dX12_init_881 (by decide) ?_
  refine lv_bipush (v := 32) hx hb dX12_init_883 (by decide) ?_
  refine va_cast hx hb hK hP hD hS 5 4 rfl rfl (vp_in_nI (n := 22) (N := 66) (by decide) (by decide)) dX12_init_885 (fun H locs hP hD hS => ?_)
  obtain ⟨g_199, eg_199⟩ : ∃ y, y = upd (g_198) (22 : Int32).toNatClampNeg (vp_nar .char 32) := ⟨_, rfl⟩
  rw [← eg_199] at hP hD
  clear eg_199
  have hP : va_P (dC, dI) vwCl [(h0, .inr (12, fs_175)), (q1, .inl (cI, 4000, (.inl (fun _ => 0)))), (q3, .inl (cI, 6, (.inl (fun _ => 0)))), (q5, .inl (cI, 49152, (.inl (fun _ => 0)))), (q7, .inl (cZ, 768, (.inl (fun _ => 0)))), (q176, .inl (cC, 66, (.inl (g_199))))] H := hP
  have hD : va_D A [(h0, .inr (12, fs_175)), (q1, .inl (cI, 4000, (.inl (fun _ => 0)))), (q3, .inl (cI, 6, (.inl (fun _ => 0)))), (q5, .inl (cI, 49152, (.inl (fun _ => 0)))), (q7, .inl (cZ, 768, (.inl (fun _ => 0)))), (q176, .inl (cC, 66, (.inl (g_199))))] := hD
  refine lv_dup hx hb dX12_init_886 rfl ?_
  refine lv_bipush (v := 23) hx hb dX12_init_887 (by decide) ?_
  refine lv_bipush (v := 101) hx hb dX12_init_889 (by decide) ?_
  refine va_cast hx hb hK hP hD hS 5 4 rfl rfl (vp_in_nI (n := 23) (N := 66) (by decide) (by decide)) dX12_init_891 (fun H locs hP hD hS => ?_)
  obtain ⟨g_200, eg_200⟩ : ∃ y, y = upd (g_199) (23 : Int32).toNatClampNeg (vp_nar .char 101) := ⟨_, rfl⟩
  rw [← eg_200] at hP hD
  clear eg_200
  have hP : va_P (dC, dI) vwCl [(h0, .inr (12, fs_175)), (q1, .inl (cI, 4000, (.inl (fun _ => 0)))), (q3, .inl (cI, 6, (.inl (fun _ => 0)))), (q5, .inl (cI, 49152, (.inl (fun _ => 0)))), (q7, .inl (cZ, 768, (.inl (fun _ => 0)))), (q176, .inl (cC, 66, (.inl (g_200))))] H := hP
  have hD : va_D A [(h0, .inr (12, fs_175)), (q1, .inl (cI, 4000, (.inl (fun _ => 0)))), (q3, .inl (cI, 6, (.inl (fun _ => 0)))), (q5, .inl (cI, 49152, (.inl (fun _ => 0)))), (q7, .inl (cZ, 768, (.inl (fun _ => 0)))), (q176, .inl (cC, 66, (.inl (g_200))))] := hD
  refine lv_dup hx hb dX12_init_892 rfl ?_
  refine lv_bipush (v := 24) hx hb dX12_init_893 (by decide) ?_
  refine lv_bipush (v := 114) hx hb dX12_init_895 (by decide) ?_
  refine va_cast hx hb hK hP hD hS 5 4 rfl rfl (vp_in_nI (n := 24) (N := 66) (by decide) (by decide)) dX12_init_897 (fun H locs hP hD hS => ?_)
  obtain ⟨g_201, eg_201⟩ : ∃ y, y = upd (g_200) (24 : Int32).toNatClampNeg (vp_nar .char 114) := ⟨_, rfl⟩
  rw [← eg_201] at hP hD
  clear eg_201
  have hP : va_P (dC, dI) vwCl [(h0, .inr (12, fs_175)), (q1, .inl (cI, 4000, (.inl (fun _ => 0)))), (q3, .inl (cI, 6, (.inl (fun _ => 0)))), (q5, .inl (cI, 49152, (.inl (fun _ => 0)))), (q7, .inl (cZ, 768, (.inl (fun _ => 0)))), (q176, .inl (cC, 66, (.inl (g_201))))] H := hP
  have hD : va_D A [(h0, .inr (12, fs_175)), (q1, .inl (cI, 4000, (.inl (fun _ => 0)))), (q3, .inl (cI, 6, (.inl (fun _ => 0)))), (q5, .inl (cI, 49152, (.inl (fun _ => 0)))), (q7, .inl (cZ, 768, (.inl (fun _ => 0)))), (q176, .inl (cC, 66, (.inl (g_201))))] := hD
  refine lv_dup hx hb dX12_init_898 rfl ?_
  refine lv_bipush (v := 25) hx hb dX12_init_899 (by decide) ?_
  refine lv_bipush (v := 97) hx hb dX12_init_901 (by decide) ?_
  refine va_cast hx hb hK hP hD hS 5 4 rfl rfl (vp_in_nI (n := 25) (N := 66) (by decide) (by decide)) dX12_init_903 (fun H locs hP hD hS => ?_)
  obtain ⟨g_202, eg_202⟩ : ∃ y, y = upd (g_201) (25 : Int32).toNatClampNeg (vp_nar .char 97) := ⟨_, rfl⟩
  rw [← eg_202] at hP hD
  clear eg_202
  have hP : va_P (dC, dI) vwCl [(h0, .inr (12, fs_175)), (q1, .inl (cI, 4000, (.inl (fun _ => 0)))), (q3, .inl (cI, 6, (.inl (fun _ => 0)))), (q5, .inl (cI, 49152, (.inl (fun _ => 0)))), (q7, .inl (cZ, 768, (.inl (fun _ => 0)))), (q176, .inl (cC, 66, (.inl (g_202))))] H := hP
  have hD : va_D A [(h0, .inr (12, fs_175)), (q1, .inl (cI, 4000, (.inl (fun _ => 0)))), (q3, .inl (cI, 6, (.inl (fun _ => 0)))), (q5, .inl (cI, 49152, (.inl (fun _ => 0)))), (q7, .inl (cZ, 768, (.inl (fun _ => 0)))), (q176, .inl (cC, 66, (.inl (g_202))))] := hD
  refine lv_dup hx hb dX12_init_904 rfl ?_
  refine lv_bipush (v := 26) hx hb dX12_init_905 (by decide) ?_
  refine lv_bipush (v := 115) hx hb dX12_init_907 (by decide) ?_
  refine va_cast hx hb hK hP hD hS 5 4 rfl rfl (vp_in_nI (n := 26) (N := 66) (by decide) (by decide)) dX12_init_909 (fun H locs hP hD hS => ?_)
  obtain ⟨g_203, eg_203⟩ : ∃ y, y = upd (g_202) (26 : Int32).toNatClampNeg (vp_nar .char 115) := ⟨_, rfl⟩
  rw [← eg_203] at hP hD
  clear eg_203
  have hP : va_P (dC, dI) vwCl [(h0, .inr (12, fs_175)), (q1, .inl (cI, 4000, (.inl (fun _ => 0)))), (q3, .inl (cI, 6, (.inl (fun _ => 0)))), (q5, .inl (cI, 49152, (.inl (fun _ => 0)))), (q7, .inl (cZ, 768, (.inl (fun _ => 0)))), (q176, .inl (cC, 66, (.inl (g_203))))] H := hP
  have hD : va_D A [(h0, .inr (12, fs_175)), (q1, .inl (cI, 4000, (.inl (fun _ => 0)))), (q3, .inl (cI, 6, (.inl (fun _ => 0)))), (q5, .inl (cI, 49152, (.inl (fun _ => 0)))), (q7, .inl (cZ, 768, (.inl (fun _ => 0)))), (q176, .inl (cC, 66, (.inl (g_203))))] := hD
  refine lv_dup hx hb dX12_init_910 rfl ?_
  refine lv_bipush (v := 27) hx hb dX12_init_911 (by decide) ?_
  refine lv_bipush (v := 101) hx hb dX12_init_913 (by decide) ?_
  refine va_cast hx hb hK hP hD hS 5 4 rfl rfl (vp_in_nI (n := 27) (N := 66) (by decide) (by decide)) dX12_init_915 (fun H locs hP hD hS => ?_)
  obtain ⟨g_204, eg_204⟩ : ∃ y, y = upd (g_203) (27 : Int32).toNatClampNeg (vp_nar .char 101) := ⟨_, rfl⟩
  rw [← eg_204] at hP hD
  clear eg_204
  have hP : va_P (dC, dI) vwCl [(h0, .inr (12, fs_175)), (q1, .inl (cI, 4000, (.inl (fun _ => 0)))), (q3, .inl (cI, 6, (.inl (fun _ => 0)))), (q5, .inl (cI, 49152, (.inl (fun _ => 0)))), (q7, .inl (cZ, 768, (.inl (fun _ => 0)))), (q176, .inl (cC, 66, (.inl (g_204))))] H := hP
  have hD : va_D A [(h0, .inr (12, fs_175)), (q1, .inl (cI, 4000, (.inl (fun _ => 0)))), (q3, .inl (cI, 6, (.inl (fun _ => 0)))), (q5, .inl (cI, 49152, (.inl (fun _ => 0)))), (q7, .inl (cZ, 768, (.inl (fun _ => 0)))), (q176, .inl (cC, 66, (.inl (g_204))))] := hD
  refine lv_dup hx hb dX12_init_916 rfl ?_
  refine lv_bipush (v := 28) hx hb dX12_init_917 (by decide) ?_
  refine lv_bipush (v := 100) hx hb dX12_init_919 (by decide) ?_
  refine va_cast hx hb hK hP hD hS 5 4 rfl rfl (vp_in_nI (n := 28) (N := 66) (by decide) (by decide)) dX12_init_921 (fun H locs hP hD hS => ?_)
  obtain ⟨g_205, eg_205⟩ : ∃ y, y = upd (g_204) (28 : Int32).toNatClampNeg (vp_nar .char 100) := ⟨_, rfl⟩
  rw [← eg_205] at hP hD
  clear eg_205
  have hP : va_P (dC, dI) vwCl [(h0, .inr (12, fs_175)), (q1, .inl (cI, 4000, (.inl (fun _ => 0)))), (q3, .inl (cI, 6, (.inl (fun _ => 0)))), (q5, .inl (cI, 49152, (.inl (fun _ => 0)))), (q7, .inl (cZ, 768, (.inl (fun _ => 0)))), (q176, .inl (cC, 66, (.inl (g_205))))] H := hP
  have hD : va_D A [(h0, .inr (12, fs_175)), (q1, .inl (cI, 4000, (.inl (fun _ => 0)))), (q3, .inl (cI, 6, (.inl (fun _ => 0)))), (q5, .inl (cI, 49152, (.inl (fun _ => 0)))), (q7, .inl (cZ, 768, (.inl (fun _ => 0)))), (q176, .inl (cC, 66, (.inl (g_205))))] := hD
  refine lv_dup hx hb dX12_init_922 rfl ?_
  refine lv_bipush (v := 29) hx hb dX12_init_923 (by decide) ?_
  refine lv_bipush (v := 32) hx hb dX12_init_925 (by decide) ?_
  refine va_cast hx hb hK hP hD hS 5 4 rfl rfl (vp_in_nI (n := 29) (N := 66) (by decide) (by decide)) dX12_init_927 (fun H locs hP hD hS => ?_)
  obtain ⟨g_206, eg_206⟩ : ∃ y, y = upd (g_205) (29 : Int32).toNatClampNeg (vp_nar .char 32) := ⟨_, rfl⟩
  rw [← eg_206] at hP hD
  clear eg_206
  have hP : va_P (dC, dI) vwCl [(h0, .inr (12, fs_175)), (q1, .inl (cI, 4000, (.inl (fun _ => 0)))), (q3, .inl (cI, 6, (.inl (fun _ => 0)))), (q5, .inl (cI, 49152, (.inl (fun _ => 0)))), (q7, .inl (cZ, 768, (.inl (fun _ => 0)))), (q176, .inl (cC, 66, (.inl (g_206))))] H := hP
  have hD : va_D A [(h0, .inr (12, fs_175)), (q1, .inl (cI, 4000, (.inl (fun _ => 0)))), (q3, .inl (cI, 6, (.inl (fun _ => 0)))), (q5, .inl (cI, 49152, (.inl (fun _ => 0)))), (q7, .inl (cZ, 768, (.inl (fun _ => 0)))), (q176, .inl (cC, 66, (.inl (g_206))))] := hD
  refine lv_dup hx hb dX12_init_928 rfl ?_
  refine lv_bipush (v := 30) hx hb dX12_init_929 (by decide) ?_
  refine lv_bipush (v := 103) hx hb dX12_init_931 (by decide) ?_
  refine va_cast hx hb hK hP hD hS 5 4 rfl rfl (vp_in_nI (n := 30) (N := 66) (by decide) (by decide)) dX12_init_933 (fun H locs hP hD hS => ?_)
  obtain ⟨g_207, eg_207⟩ : ∃ y, y = upd (g_206) (30 : Int32).toNatClampNeg (vp_nar .char 103) := ⟨_, rfl⟩
  rw [← eg_207] at hP hD
  clear eg_207
  have hP : va_P (dC, dI) vwCl [(h0, .inr (12, fs_175)), (q1, .inl (cI, 4000, (.inl (fun _ => 0)))), (q3, .inl (cI, 6, (.inl (fun _ => 0)))), (q5, .inl (cI, 49152, (.inl (fun _ => 0)))), (q7, .inl (cZ, 768, (.inl (fun _ => 0)))), (q176, .inl (cC, 66, (.inl (g_207))))] H := hP
  have hD : va_D A [(h0, .inr (12, fs_175)), (q1, .inl (cI, 4000, (.inl (fun _ => 0)))), (q3, .inl (cI, 6, (.inl (fun _ => 0)))), (q5, .inl (cI, 49152, (.inl (fun _ => 0)))), (q7, .inl (cZ, 768, (.inl (fun _ => 0)))), (q176, .inl (cC, 66, (.inl (g_207))))] := hD
  refine lv_dup hx hb dX12_init_934 rfl ?_
  refine lv_bipush (v := 31) hx hb dX12_init_935 (by decide) ?_
  refine lv_bipush (v := 114) hx hb dX12_init_937 (by decide) ?_
  refine va_cast hx hb hK hP hD hS 5 4 rfl rfl (vp_in_nI (n := 31) (N := 66) (by decide) (by decide)) dX12_init_939 (fun H locs hP hD hS => ?_)
  obtain ⟨g_208, eg_208⟩ : ∃ y, y = upd (g_207) (31 : Int32).toNatClampNeg (vp_nar .char 114) := ⟨_, rfl⟩
  rw [← eg_208] at hP hD
  clear eg_208
  have hP : va_P (dC, dI) vwCl [(h0, .inr (12, fs_175)), (q1, .inl (cI, 4000, (.inl (fun _ => 0)))), (q3, .inl (cI, 6, (.inl (fun _ => 0)))), (q5, .inl (cI, 49152, (.inl (fun _ => 0)))), (q7, .inl (cZ, 768, (.inl (fun _ => 0)))), (q176, .inl (cC, 66, (.inl (g_208))))] H := hP
  have hD : va_D A [(h0, .inr (12, fs_175)), (q1, .inl (cI, 4000, (.inl (fun _ => 0)))), (q3, .inl (cI, 6, (.inl (fun _ => 0)))), (q5, .inl (cI, 49152, (.inl (fun _ => 0)))), (q7, .inl (cZ, 768, (.inl (fun _ => 0)))), (q176, .inl (cC, 66, (.inl (g_208))))] := hD
  refine lv_dup hx hb dX12_init_940 rfl ?_
  refine lv_bipush (v := 32) hx hb dX12_init_941 (by decide) ?_
  refine lv_bipush (v := 97) hx hb dX12_init_943 (by decide) ?_
  refine va_cast hx hb hK hP hD hS 5 4 rfl rfl (vp_in_nI (n := 32) (N := 66) (by decide) (by decide)) dX12_init_945 (fun H locs hP hD hS => ?_)
  obtain ⟨g_209, eg_209⟩ : ∃ y, y = upd (g_208) (32 : Int32).toNatClampNeg (vp_nar .char 97) := ⟨_, rfl⟩
  rw [← eg_209] at hP hD
  clear eg_209
  have hP : va_P (dC, dI) vwCl [(h0, .inr (12, fs_175)), (q1, .inl (cI, 4000, (.inl (fun _ => 0)))), (q3, .inl (cI, 6, (.inl (fun _ => 0)))), (q5, .inl (cI, 49152, (.inl (fun _ => 0)))), (q7, .inl (cZ, 768, (.inl (fun _ => 0)))), (q176, .inl (cC, 66, (.inl (g_209))))] H := hP
  have hD : va_D A [(h0, .inr (12, fs_175)), (q1, .inl (cI, 4000, (.inl (fun _ => 0)))), (q3, .inl (cI, 6, (.inl (fun _ => 0)))), (q5, .inl (cI, 49152, (.inl (fun _ => 0)))), (q7, .inl (cZ, 768, (.inl (fun _ => 0)))), (q176, .inl (cC, 66, (.inl (g_209))))] := hD
  refine lv_dup hx hb dX12_init_946 rfl ?_
  refine lv_bipush (v := 33) hx hb dX12_init_947 (by decide) ?_
  refine lv_bipush (v := 100) hx hb dX12_init_949 (by decide) ?_
  refine va_cast hx hb hK hP hD hS 5 4 rfl rfl (vp_in_nI (n := 33) (N := 66) (by decide) (by decide)) dX12_init_951 (fun H locs hP hD hS => ?_)
  obtain ⟨g_210, eg_210⟩ : ∃ y, y = upd (g_209) (33 : Int32).toNatClampNeg (vp_nar .char 100) := ⟨_, rfl⟩
  rw [← eg_210] at hP hD
  clear eg_210
  have hP : va_P (dC, dI) vwCl [(h0, .inr (12, fs_175)), (q1, .inl (cI, 4000, (.inl (fun _ => 0)))), (q3, .inl (cI, 6, (.inl (fun _ => 0)))), (q5, .inl (cI, 49152, (.inl (fun _ => 0)))), (q7, .inl (cZ, 768, (.inl (fun _ => 0)))), (q176, .inl (cC, 66, (.inl (g_210))))] H := hP
  have hD : va_D A [(h0, .inr (12, fs_175)), (q1, .inl (cI, 4000, (.inl (fun _ => 0)))), (q3, .inl (cI, 6, (.inl (fun _ => 0)))), (q5, .inl (cI, 49152, (.inl (fun _ => 0)))), (q7, .inl (cZ, 768, (.inl (fun _ => 0)))), (q176, .inl (cC, 66, (.inl (g_210))))] := hD
  refine lv_dup hx hb dX12_init_952 rfl ?_
  refine lv_bipush (v := 34) hx hb dX12_init_953 (by decide) ?_
  refine lv_bipush (v := 101) hx hb dX12_init_955 (by decide) ?_
  refine va_cast hx hb hK hP hD hS 5 4 rfl rfl (vp_in_nI (n := 34) (N := 66) (by decide) (by decide)) dX12_init_957 (fun H locs hP hD hS => ?_)
  obtain ⟨g_211, eg_211⟩ : ∃ y, y = upd (g_210) (34 : Int32).toNatClampNeg (vp_nar .char 101) := ⟨_, rfl⟩
  rw [← eg_211] at hP hD
  clear eg_211
  have hP : va_P (dC, dI) vwCl [(h0, .inr (12, fs_175)), (q1, .inl (cI, 4000, (.inl (fun _ => 0)))), (q3, .inl (cI, 6, (.inl (fun _ => 0)))), (q5, .inl (cI, 49152, (.inl (fun _ => 0)))), (q7, .inl (cZ, 768, (.inl (fun _ => 0)))), (q176, .inl (cC, 66, (.inl (g_211))))] H := hP
  have hD : va_D A [(h0, .inr (12, fs_175)), (q1, .inl (cI, 4000, (.inl (fun _ => 0)))), (q3, .inl (cI, 6, (.inl (fun _ => 0)))), (q5, .inl (cI, 49152, (.inl (fun _ => 0)))), (q7, .inl (cZ, 768, (.inl (fun _ => 0)))), (q176, .inl (cC, 66, (.inl (g_211))))] := hD
  refine lv_dup hx hb dX12_init_958 rfl ?_
  refine lv_bipush (v := 35) hx hb dX12_init_959 (by decide) ?_
  refine lv_bipush (v := 32) hx hb dX12_init_961 (by decide) ?_
  refine va_cast hx hb hK hP hD hS 5 4 rfl rfl (vp_in_nI (n := 35) (N := 66) (by decide) (by decide)) dX12_init_963 (fun H locs hP hD hS => ?_)
  obtain ⟨g_212, eg_212⟩ : ∃ y, y = upd (g_211) (35 : Int32).toNatClampNeg (vp_nar .char 32) := ⟨_, rfl⟩
  rw [← eg_212] at hP hD
  clear eg_212
  have hP : va_P (dC, dI) vwCl [(h0, .inr (12, fs_175)), (q1, .inl (cI, 4000, (.inl (fun _ => 0)))), (q3, .inl (cI, 6, (.inl (fun _ => 0)))), (q5, .inl (cI, 49152, (.inl (fun _ => 0)))), (q7, .inl (cZ, 768, (.inl (fun _ => 0)))), (q176, .inl (cC, 66, (.inl (g_212))))] H := hP
  have hD : va_D A [(h0, .inr (12, fs_175)), (q1, .inl (cI, 4000, (.inl (fun _ => 0)))), (q3, .inl (cI, 6, (.inl (fun _ => 0)))), (q5, .inl (cI, 49152, (.inl (fun _ => 0)))), (q7, .inl (cZ, 768, (.inl (fun _ => 0)))), (q176, .inl (cC, 66, (.inl (g_212))))] := hD
  refine lv_dup hx hb dX12_init_964 rfl ?_
  refine lv_bipush (v := 36) hx hb dX12_init_965 (by decide) ?_
  refine lv_bipush (v := 98) hx hb dX12_init_967 (by decide) ?_
  refine va_cast hx hb hK hP hD hS 5 4 rfl rfl (vp_in_nI (n := 36) (N := 66) (by decide) (by decide)) dX12_init_969 (fun H locs hP hD hS => ?_)
  obtain ⟨g_213, eg_213⟩ : ∃ y, y = upd (g_212) (36 : Int32).toNatClampNeg (vp_nar .char 98) := ⟨_, rfl⟩
  rw [← eg_213] at hP hD
  clear eg_213
  have hP : va_P (dC, dI) vwCl [(h0, .inr (12, fs_175)), (q1, .inl (cI, 4000, (.inl (fun _ => 0)))), (q3, .inl (cI, 6, (.inl (fun _ => 0)))), (q5, .inl (cI, 49152, (.inl (fun _ => 0)))), (q7, .inl (cZ, 768, (.inl (fun _ => 0)))), (q176, .inl (cC, 66, (.inl (g_213))))] H := hP
  have hD : va_D A [(h0, .inr (12, fs_175)), (q1, .inl (cI, 4000, (.inl (fun _ => 0)))), (q3, .inl (cI, 6, (.inl (fun _ => 0)))), (q5, .inl (cI, 49152, (.inl (fun _ => 0)))), (q7, .inl (cZ, 768, (.inl (fun _ => 0)))), (q176, .inl (cC, 66, (.inl (g_213))))] := hD
  refine lv_dup hx hb dX12_init_970 rfl ?_
  refine lv_bipush (v := 37) hx hb dX12_init_971 (by decide) ?_
  refine lv_bipush (v := 108) hx hb dX12_init_973 (by decide) ?_
  refine va_cast hx hb hK hP hD hS 5 4 rfl rfl (vp_in_nI (n := 37) (N := 66) (by decide) (by decide)) dX12_init_975 (fun H locs hP hD hS => ?_)
  obtain ⟨g_214, eg_214⟩ : ∃ y, y = upd (g_213) (37 : Int32).toNatClampNeg (vp_nar .char 108) := ⟨_, rfl⟩
  rw [← eg_214] at hP hD
  clear eg_214
  have hP : va_P (dC, dI) vwCl [(h0, .inr (12, fs_175)), (q1, .inl (cI, 4000, (.inl (fun _ => 0)))), (q3, .inl (cI, 6, (.inl (fun _ => 0)))), (q5, .inl (cI, 49152, (.inl (fun _ => 0)))), (q7, .inl (cZ, 768, (.inl (fun _ => 0)))), (q176, .inl (cC, 66, (.inl (g_214))))] H := hP
  have hD : va_D A [(h0, .inr (12, fs_175)), (q1, .inl (cI, 4000, (.inl (fun _ => 0)))), (q3, .inl (cI, 6, (.inl (fun _ => 0)))), (q5, .inl (cI, 49152, (.inl (fun _ => 0)))), (q7, .inl (cZ, 768, (.inl (fun _ => 0)))), (q176, .inl (cC, 66, (.inl (g_214))))] := hD
  refine lv_dup hx hb dX12_init_976 rfl ?_
  refine lv_bipush (v := 38) hx hb dX12_init_977 (by decide) ?_
  refine lv_bipush (v := 111) hx hb dX12_init_979 (by decide) ?_
  refine va_cast hx hb hK hP hD hS 5 4 rfl rfl (vp_in_nI (n := 38) (N := 66) (by decide) (by decide)) dX12_init_981 (fun H locs hP hD hS => ?_)
  obtain ⟨g_215, eg_215⟩ : ∃ y, y = upd (g_214) (38 : Int32).toNatClampNeg (vp_nar .char 111) := ⟨_, rfl⟩
  rw [← eg_215] at hP hD
  clear eg_215
  have hP : va_P (dC, dI) vwCl [(h0, .inr (12, fs_175)), (q1, .inl (cI, 4000, (.inl (fun _ => 0)))), (q3, .inl (cI, 6, (.inl (fun _ => 0)))), (q5, .inl (cI, 49152, (.inl (fun _ => 0)))), (q7, .inl (cZ, 768, (.inl (fun _ => 0)))), (q176, .inl (cC, 66, (.inl (g_215))))] H := hP
  have hD : va_D A [(h0, .inr (12, fs_175)), (q1, .inl (cI, 4000, (.inl (fun _ => 0)))), (q3, .inl (cI, 6, (.inl (fun _ => 0)))), (q5, .inl (cI, 49152, (.inl (fun _ => 0)))), (q7, .inl (cZ, 768, (.inl (fun _ => 0)))), (q176, .inl (cC, 66, (.inl (g_215))))] := hD
  refine lv_dup hx hb dX12_init_982 rfl ?_
  refine lv_bipush (v := 39) hx hb dX12_init_983 (by decide) ?_
  refine lv_bipush (v := 99) hx hb dX12_init_985 (by decide) ?_
  refine va_cast hx hb hK hP hD hS 5 4 rfl rfl (vp_in_nI (n := 39) (N := 66) (by decide) (by decide)) dX12_init_987 (fun H locs hP hD hS => ?_)
  obtain ⟨g_216, eg_216⟩ : ∃ y, y = upd (g_215) (39 : Int32).toNatClampNeg (vp_nar .char 99) := ⟨_, rfl⟩
  rw [← eg_216] at hP hD
  clear eg_216
  have hP : va_P (dC, dI) vwCl [(h0, .inr (12, fs_175)), (q1, .inl (cI, 4000, (.inl (fun _ => 0)))), (q3, .inl (cI, 6, (.inl (fun _ => 0)))), (q5, .inl (cI, 49152, (.inl (fun _ => 0)))), (q7, .inl (cZ, 768, (.inl (fun _ => 0)))), (q176, .inl (cC, 66, (.inl (g_216))))] H := hP
  have hD : va_D A [(h0, .inr (12, fs_175)), (q1, .inl (cI, 4000, (.inl (fun _ => 0)))), (q3, .inl (cI, 6, (.inl (fun _ => 0)))), (q5, .inl (cI, 49152, (.inl (fun _ => 0)))), (q7, .inl (cZ, 768, (.inl (fun _ => 0)))), (q176, .inl (cC, 66, (.inl (g_216))))] := hD
  refine lv_dup hx hb dX12_init_988 rfl ?_
  refine lv_bipush (v := 40) hx hb dX12_init_989 (by decide) ?_
  refine lv_bipush (v := 107) hx hb dX12_init_991 (by decide) ?_
  refine va_cast hx hb hK hP hD hS 5 4 rfl rfl (vp_in_nI (n := 40) (N := 66) (by decide) (by decide)) dX12_init_993 (fun H locs hP hD hS => ?_)
  obtain ⟨g_217, eg_217⟩ : ∃ y, y = upd (g_216) (40 : Int32).toNatClampNeg (vp_nar .char 107) := ⟨_, rfl⟩
  rw [← eg_217] at hP hD
  clear eg_217
  have hP : va_P (dC, dI) vwCl [(h0, .inr (12, fs_175)), (q1, .inl (cI, 4000, (.inl (fun _ => 0)))), (q3, .inl (cI, 6, (.inl (fun _ => 0)))), (q5, .inl (cI, 49152, (.inl (fun _ => 0)))), (q7, .inl (cZ, 768, (.inl (fun _ => 0)))), (q176, .inl (cC, 66, (.inl (g_217))))] H := hP
  have hD : va_D A [(h0, .inr (12, fs_175)), (q1, .inl (cI, 4000, (.inl (fun _ => 0)))), (q3, .inl (cI, 6, (.inl (fun _ => 0)))), (q5, .inl (cI, 49152, (.inl (fun _ => 0)))), (q7, .inl (cZ, 768, (.inl (fun _ => 0)))), (q176, .inl (cC, 66, (.inl (g_217))))] := hD
  refine lv_dup hx hb dX12_init_994 rfl ?_
  refine lv_bipush (v := 41) hx hb dX12_init_995 (by decide) ?_
  refine lv_bipush (v := 32) hx hb dX12_init_997 (by decide) ?_
  refine va_cast hx hb hK hP hD hS 5 4 rfl rfl (vp_in_nI (n := 41) (N := 66) (by decide) (by decide)) dX12_init_999 (fun H locs hP hD hS => ?_)
  obtain ⟨g_218, eg_218⟩ : ∃ y, y = upd (g_217) (41 : Int32).toNatClampNeg (vp_nar .char 32) := ⟨_, rfl⟩
  rw [← eg_218] at hP hD
  clear eg_218
  have hP : va_P (dC, dI) vwCl [(h0, .inr (12, fs_175)), (q1, .inl (cI, 4000, (.inl (fun _ => 0)))), (q3, .inl (cI, 6, (.inl (fun _ => 0)))), (q5, .inl (cI, 49152, (.inl (fun _ => 0)))), (q7, .inl (cZ, 768, (.inl (fun _ => 0)))), (q176, .inl (cC, 66, (.inl (g_218))))] H := hP
  have hD : va_D A [(h0, .inr (12, fs_175)), (q1, .inl (cI, 4000, (.inl (fun _ => 0)))), (q3, .inl (cI, 6, (.inl (fun _ => 0)))), (q5, .inl (cI, 49152, (.inl (fun _ => 0)))), (q7, .inl (cZ, 768, (.inl (fun _ => 0)))), (q176, .inl (cC, 66, (.inl (g_218))))] := hD
  refine lv_dup hx hb dX12_init_1000 rfl ?_
  refine lv_bipush (v := 42) hx hb dX12_init_1001 (by decide) ?_
  refine lv_bipush (v := 112) hx hb dX12_init_1003 (by decide) ?_
  refine va_cast hx hb hK hP hD hS 5 4 rfl rfl (vp_in_nI (n := 42) (N := 66) (by decide) (by decide)) dX12_init_1005 (fun H locs hP hD hS => ?_)
  obtain ⟨g_219, eg_219⟩ : ∃ y, y = upd (g_218) (42 : Int32).toNatClampNeg (vp_nar .char 112) := ⟨_, rfl⟩
  rw [← eg_219] at hP hD
  clear eg_219
  have hP : va_P (dC, dI) vwCl [(h0, .inr (12, fs_175)), (q1, .inl (cI, 4000, (.inl (fun _ => 0)))), (q3, .inl (cI, 6, (.inl (fun _ => 0)))), (q5, .inl (cI, 49152, (.inl (fun _ => 0)))), (q7, .inl (cZ, 768, (.inl (fun _ => 0)))), (q176, .inl (cC, 66, (.inl (g_219))))] H := hP
  have hD : va_D A [(h0, .inr (12, fs_175)), (q1, .inl (cI, 4000, (.inl (fun _ => 0)))), (q3, .inl (cI, 6, (.inl (fun _ => 0)))), (q5, .inl (cI, 49152, (.inl (fun _ => 0)))), (q7, .inl (cZ, 768, (.inl (fun _ => 0)))), (q176, .inl (cC, 66, (.inl (g_219))))] := hD
  refine lv_dup hx hb dX12_init_1006 rfl ?_
  refine lv_bipush (v := 43) hx hb dX12_init_1007 (by decide) ?_
  refine lv_bipush (v := 97) hx hb dX12_init_1009 (by decide) ?_
  refine va_cast hx hb hK hP hD hS 5 4 rfl rfl (vp_in_nI (n := 43) (N := 66) (by decide) (by decide)) dX12_init_1011 (fun H locs hP hD hS => ?_)
  obtain ⟨g_220, eg_220⟩ : ∃ y, y = upd (g_219) (43 : Int32).toNatClampNeg (vp_nar .char 97) := ⟨_, rfl⟩
  rw [← eg_220] at hP hD
  clear eg_220
  have hP : va_P (dC, dI) vwCl [(h0, .inr (12, fs_175)), (q1, .inl (cI, 4000, (.inl (fun _ => 0)))), (q3, .inl (cI, 6, (.inl (fun _ => 0)))), (q5, .inl (cI, 49152, (.inl (fun _ => 0)))), (q7, .inl (cZ, 768, (.inl (fun _ => 0)))), (q176, .inl (cC, 66, (.inl (g_220))))] H := hP
  have hD : va_D A [(h0, .inr (12, fs_175)), (q1, .inl (cI, 4000, (.inl (fun _ => 0)))), (q3, .inl (cI, 6, (.inl (fun _ => 0)))), (q5, .inl (cI, 49152, (.inl (fun _ => 0)))), (q7, .inl (cZ, 768, (.inl (fun _ => 0)))), (q176, .inl (cC, 66, (.inl (g_220))))] := hD
  refine lv_dup hx hb dX12_init_1012 rfl ?_
  refine lv_bipush (v := 44) hx hb dX12_init_1013 (by decide) ?_
  refine lv_bipush (v := 114) hx hb dX12_init_1015 (by decide) ?_
  refine va_cast hx hb hK hP hD hS 5 4 rfl rfl (vp_in_nI (n := 44) (N := 66) (by decide) (by decide)) dX12_init_1017 (fun H locs hP hD hS => ?_)
  obtain ⟨g_221, eg_221⟩ : ∃ y, y = upd (g_220) (44 : Int32).toNatClampNeg (vp_nar .char 114) := ⟨_, rfl⟩
  rw [← eg_221] at hP hD
  clear eg_221
  have hP : va_P (dC, dI) vwCl [(h0, .inr (12, fs_175)), (q1, .inl (cI, 4000, (.inl (fun _ => 0)))), (q3, .inl (cI, 6, (.inl (fun _ => 0)))), (q5, .inl (cI, 49152, (.inl (fun _ => 0)))), (q7, .inl (cZ, 768, (.inl (fun _ => 0)))), (q176, .inl (cC, 66, (.inl (g_221))))] H := hP
  have hD : va_D A [(h0, .inr (12, fs_175)), (q1, .inl (cI, 4000, (.inl (fun _ => 0)))), (q3, .inl (cI, 6, (.inl (fun _ => 0)))), (q5, .inl (cI, 49152, (.inl (fun _ => 0)))), (q7, .inl (cZ, 768, (.inl (fun _ => 0)))), (q176, .inl (cC, 66, (.inl (g_221))))] := hD
  refine lv_dup hx hb dX12_init_1018 rfl ?_
  refine lv_bipush (v := 45) hx hb dX12_init_1019 (by decide) ?_
  refine lv_bipush (v := 116) hx hb dX12_init_1021 (by decide) ?_
  refine va_cast hx hb hK hP hD hS 5 4 rfl rfl (vp_in_nI (n := 45) (N := 66) (by decide) (by decide)) dX12_init_1023 (fun H locs hP hD hS => ?_)
  obtain ⟨g_222, eg_222⟩ : ∃ y, y = upd (g_221) (45 : Int32).toNatClampNeg (vp_nar .char 116) := ⟨_, rfl⟩
  rw [← eg_222] at hP hD
  clear eg_222
  have hP : va_P (dC, dI) vwCl [(h0, .inr (12, fs_175)), (q1, .inl (cI, 4000, (.inl (fun _ => 0)))), (q3, .inl (cI, 6, (.inl (fun _ => 0)))), (q5, .inl (cI, 49152, (.inl (fun _ => 0)))), (q7, .inl (cZ, 768, (.inl (fun _ => 0)))), (q176, .inl (cC, 66, (.inl (g_222))))] H := hP
  have hD : va_D A [(h0, .inr (12, fs_175)), (q1, .inl (cI, 4000, (.inl (fun _ => 0)))), (q3, .inl (cI, 6, (.inl (fun _ => 0)))), (q5, .inl (cI, 49152, (.inl (fun _ => 0)))), (q7, .inl (cZ, 768, (.inl (fun _ => 0)))), (q176, .inl (cC, 66, (.inl (g_222))))] := hD
  refine lv_dup hx hb dX12_init_1024 rfl ?_
  refine lv_bipush (v := 46) hx hb dX12_init_1025 (by decide) ?_
  refine lv_bipush (v := 115) hx hb dX12_init_1027 (by decide) ?_
  refine va_cast hx hb hK hP hD hS 5 4 rfl rfl (vp_in_nI (n := 46) (N := 66) (by decide) (by decide)) dX12_init_1029 (fun H locs hP hD hS => ?_)
  obtain ⟨g_223, eg_223⟩ : ∃ y, y = upd (g_222) (46 : Int32).toNatClampNeg (vp_nar .char 115) := ⟨_, rfl⟩
  rw [← eg_223] at hP hD
  clear eg_223
  have hP : va_P (dC, dI) vwCl [(h0, .inr (12, fs_175)), (q1, .inl (cI, 4000, (.inl (fun _ => 0)))), (q3, .inl (cI, 6, (.inl (fun _ => 0)))), (q5, .inl (cI, 49152, (.inl (fun _ => 0)))), (q7, .inl (cZ, 768, (.inl (fun _ => 0)))), (q176, .inl (cC, 66, (.inl (g_223))))] H := hP
  have hD : va_D A [(h0, .inr (12, fs_175)), (q1, .inl (cI, 4000, (.inl (fun _ => 0)))), (q3, .inl (cI, 6, (.inl (fun _ => 0)))), (q5, .inl (cI, 49152, (.inl (fun _ => 0)))), (q7, .inl (cZ, 768, (.inl (fun _ => 0)))), (q176, .inl (cC, 66, (.inl (g_223))))] := hD
  refine lv_dup hx hb dX12_init_1030 rfl ?_
  refine lv_bipush (v := 47) hx hb dX12_init_1031 (by decide) ?_
  refine lv_bipush (v := 32) hx hb dX12_init_1033 (by decide) ?_
  refine va_cast hx hb hK hP hD hS 5 4 rfl rfl (vp_in_nI (n := 47) (N := 66) (by decide) (by decide)) dX12_init_1035 (fun H locs hP hD hS => ?_)
  obtain ⟨g_224, eg_224⟩ : ∃ y, y = upd (g_223) (47 : Int32).toNatClampNeg (vp_nar .char 32) := ⟨_, rfl⟩
  rw [← eg_224] at hP hD
  clear eg_224
  have hP : va_P (dC, dI) vwCl [(h0, .inr (12, fs_175)), (q1, .inl (cI, 4000, (.inl (fun _ => 0)))), (q3, .inl (cI, 6, (.inl (fun _ => 0)))), (q5, .inl (cI, 49152, (.inl (fun _ => 0)))), (q7, .inl (cZ, 768, (.inl (fun _ => 0)))), (q176, .inl (cC, 66, (.inl (g_224))))] H := hP
  have hD : va_D A [(h0, .inr (12, fs_175)), (q1, .inl (cI, 4000, (.inl (fun _ => 0)))), (q3, .inl (cI, 6, (.inl (fun _ => 0)))), (q5, .inl (cI, 49152, (.inl (fun _ => 0)))), (q7, .inl (cZ, 768, (.inl (fun _ => 0)))), (q176, .inl (cC, 66, (.inl (g_224))))] := hD
  refine lv_dup hx hb dX12_init_1036 rfl ?_
  refine lv_bipush (v := 48) hx hb dX12_init_1037 (by decide) ?_
  refine lv_bipush (v := 102) hx hb dX12_init_1039 (by decide) ?_
  refine va_cast hx hb hK hP hD hS 5 4 rfl rfl (vp_in_nI (n := 48) (N := 66) (by decide) (by decide)) dX12_init_1041 (fun H locs hP hD hS => ?_)
  obtain ⟨g_225, eg_225⟩ : ∃ y, y = upd (g_224) (48 : Int32).toNatClampNeg (vp_nar .char 102) := ⟨_, rfl⟩
  rw [← eg_225] at hP hD
  clear eg_225
  have hP : va_P (dC, dI) vwCl [(h0, .inr (12, fs_175)), (q1, .inl (cI, 4000, (.inl (fun _ => 0)))), (q3, .inl (cI, 6, (.inl (fun _ => 0)))), (q5, .inl (cI, 49152, (.inl (fun _ => 0)))), (q7, .inl (cZ, 768, (.inl (fun _ => 0)))), (q176, .inl (cC, 66, (.inl (g_225))))] H := hP
  have hD : va_D A [(h0, .inr (12, fs_175)), (q1, .inl (cI, 4000, (.inl (fun _ => 0)))), (q3, .inl (cI, 6, (.inl (fun _ => 0)))), (q5, .inl (cI, 49152, (.inl (fun _ => 0)))), (q7, .inl (cZ, 768, (.inl (fun _ => 0)))), (q176, .inl (cC, 66, (.inl (g_225))))] := hD
  refine lv_dup hx hb dX12_init_1042 rfl ?_
  refine lv_bipush (v := 49) hx hb dX12_init_1043 (by decide) ?_
  refine lv_bipush (v := 97) hx hb dX12_init_1045 (by decide) ?_
  refine va_cast hx hb hK hP hD hS 5 4 rfl rfl (vp_in_nI (n := 49) (N := 66) (by decide) (by decide)) dX12_init_1047 (fun H locs hP hD hS => ?_)
  obtain ⟨g_226, eg_226⟩ : ∃ y, y = upd (g_225) (49 : Int32).toNatClampNeg (vp_nar .char 97) := ⟨_, rfl⟩
  rw [← eg_226] at hP hD
  clear eg_226
  have hP : va_P (dC, dI) vwCl [(h0, .inr (12, fs_175)), (q1, .inl (cI, 4000, (.inl (fun _ => 0)))), (q3, .inl (cI, 6, (.inl (fun _ => 0)))), (q5, .inl (cI, 49152, (.inl (fun _ => 0)))), (q7, .inl (cZ, 768, (.inl (fun _ => 0)))), (q176, .inl (cC, 66, (.inl (g_226))))] H := hP
  have hD : va_D A [(h0, .inr (12, fs_175)), (q1, .inl (cI, 4000, (.inl (fun _ => 0)))), (q3, .inl (cI, 6, (.inl (fun _ => 0)))), (q5, .inl (cI, 49152, (.inl (fun _ => 0)))), (q7, .inl (cZ, 768, (.inl (fun _ => 0)))), (q176, .inl (cC, 66, (.inl (g_226))))] := hD
  refine lv_dup hx hb dX12_init_1048 rfl ?_
  refine lv_bipush (v := 50) hx hb dX12_init_1049 (by decide) ?_
  refine lv_bipush (v := 117) hx hb dX12_init_1051 (by decide) ?_
  refine va_cast hx hb hK hP hD hS 5 4 rfl rfl (vp_in_nI (n := 50) (N := 66) (by decide) (by decide)) dX12_init_1053 (fun H locs hP hD hS => ?_)
  obtain ⟨g_227, eg_227⟩ : ∃ y, y = upd (g_226) (50 : Int32).toNatClampNeg (vp_nar .char 117) := ⟨_, rfl⟩
  rw [← eg_227] at hP hD
  clear eg_227
  have hP : va_P (dC, dI) vwCl [(h0, .inr (12, fs_175)), (q1, .inl (cI, 4000, (.inl (fun _ => 0)))), (q3, .inl (cI, 6, (.inl (fun _ => 0)))), (q5, .inl (cI, 49152, (.inl (fun _ => 0)))), (q7, .inl (cZ, 768, (.inl (fun _ => 0)))), (q176, .inl (cC, 66, (.inl (g_227))))] H := hP
  have hD : va_D A [(h0, .inr (12, fs_175)), (q1, .inl (cI, 4000, (.inl (fun _ => 0)))), (q3, .inl (cI, 6, (.inl (fun _ => 0)))), (q5, .inl (cI, 49152, (.inl (fun _ => 0)))), (q7, .inl (cZ, 768, (.inl (fun _ => 0)))), (q176, .inl (cC, 66, (.inl (g_227))))] := hD
  refine lv_dup hx hb dX12_init_1054 rfl ?_
  refine lv_bipush (v := 51) hx hb dX12_init_1055 (by decide) ?_
  refine lv_bipush (v := 108) hx hb dX12_init_1057 (by decide) ?_
  refine va_cast hx hb hK hP hD hS 5 4 rfl rfl (vp_in_nI (n := 51) (N := 66) (by decide) (by decide)) dX12_init_1059 (fun H locs hP hD hS => ?_)
  obtain ⟨g_228, eg_228⟩ : ∃ y, y = upd (g_227) (51 : Int32).toNatClampNeg (vp_nar .char 108) := ⟨_, rfl⟩
  rw [← eg_228] at hP hD
  clear eg_228
  have hP : va_P (dC, dI) vwCl [(h0, .inr (12, fs_175)), (q1, .inl (cI, 4000, (.inl (fun _ => 0)))), (q3, .inl (cI, 6, (.inl (fun _ => 0)))), (q5, .inl (cI, 49152, (.inl (fun _ => 0)))), (q7, .inl (cZ, 768, (.inl (fun _ => 0)))), (q176, .inl (cC, 66, (.inl (g_228))))] H := hP
  have hD : va_D A [(h0, .inr (12, fs_175)), (q1, .inl (cI, 4000, (.inl (fun _ => 0)))), (q3, .inl (cI, 6, (.inl (fun _ => 0)))), (q5, .inl (cI, 49152, (.inl (fun _ => 0)))), (q7, .inl (cZ, 768, (.inl (fun _ => 0)))), (q176, .inl (cC, 66, (.inl (g_228))))] := hD
  refine lv_dup hx hb dX12_init_1060 rfl ?_
  refine lv_bipush (v := 52) hx hb dX12_init_1061 (by decide) ?_
  refine lv_bipush (v := 116) hx hb dX12_init_1063 (by decide) ?_
  refine va_cast hx hb hK hP hD hS 5 4 rfl rfl (vp_in_nI (n := 52) (N := 66) (by decide) (by decide)) dX12_init_1065 (fun H locs hP hD hS => ?_)
  obtain ⟨g_229, eg_229⟩ : ∃ y, y = upd (g_228) (52 : Int32).toNatClampNeg (vp_nar .char 116) := ⟨_, rfl⟩
  rw [← eg_229] at hP hD
  clear eg_229
  have hP : va_P (dC, dI) vwCl [(h0, .inr (12, fs_175)), (q1, .inl (cI, 4000, (.inl (fun _ => 0)))), (q3, .inl (cI, 6, (.inl (fun _ => 0)))), (q5, .inl (cI, 49152, (.inl (fun _ => 0)))), (q7, .inl (cZ, 768, (.inl (fun _ => 0)))), (q176, .inl (cC, 66, (.inl (g_229))))] H := hP
  have hD : va_D A [(h0, .inr (12, fs_175)), (q1, .inl (cI, 4000, (.inl (fun _ => 0)))), (q3, .inl (cI, 6, (.inl (fun _ => 0)))), (q5, .inl (cI, 49152, (.inl (fun _ => 0)))), (q7, .inl (cZ, 768, (.inl (fun _ => 0)))), (q176, .inl (cC, 66, (.inl (g_229))))] := hD
  refine lv_dup hx hb dX12_init_1066 rfl ?_
  refine lv_bipush (v := 53) hx hb dX12_init_1067 (by decide) ?_
  refine lv_bipush (v := 115) hx hb dX12_init_1069 (by decide) ?_
  refine va_cast hx hb hK hP hD hS 5 4 rfl rfl (vp_in_nI (n := 53) (N := 66) (by decide) (by decide)) dX12_init_1071 (fun H locs hP hD hS => ?_)
  obtain ⟨g_230, eg_230⟩ : ∃ y, y = upd (g_229) (53 : Int32).toNatClampNeg (vp_nar .char 115) := ⟨_, rfl⟩
  rw [← eg_230] at hP hD
  clear eg_230
  have hP : va_P (dC, dI) vwCl [(h0, .inr (12, fs_175)), (q1, .inl (cI, 4000, (.inl (fun _ => 0)))), (q3, .inl (cI, 6, (.inl (fun _ => 0)))), (q5, .inl (cI, 49152, (.inl (fun _ => 0)))), (q7, .inl (cZ, 768, (.inl (fun _ => 0)))), (q176, .inl (cC, 66, (.inl (g_230))))] H := hP
  have hD : va_D A [(h0, .inr (12, fs_175)), (q1, .inl (cI, 4000, (.inl (fun _ => 0)))), (q3, .inl (cI, 6, (.inl (fun _ => 0)))), (q5, .inl (cI, 49152, (.inl (fun _ => 0)))), (q7, .inl (cZ, 768, (.inl (fun _ => 0)))), (q176, .inl (cC, 66, (.inl (g_230))))] := hD
  refine lv_dup hx hb dX12_init_1072 rfl ?_
  refine lv_bipush (v := 54) hx hb dX12_init_1073 (by decide) ?_
  refine lv_bipush (v := 32) hx hb dX12_init_1075 (by decide) ?_
  refine va_cast hx hb hK hP hD hS 5 4 rfl rfl (vp_in_nI (n := 54) (N := 66) (by decide) (by decide)) dX12_init_1077 (fun H locs hP hD hS => ?_)
  obtain ⟨g_231, eg_231⟩ : ∃ y, y = upd (g_230) (54 : Int32).toNatClampNeg (vp_nar .char 32) := ⟨_, rfl⟩
  rw [← eg_231] at hP hD
  clear eg_231
  have hP : va_P (dC, dI) vwCl [(h0, .inr (12, fs_175)), (q1, .inl (cI, 4000, (.inl (fun _ => 0)))), (q3, .inl (cI, 6, (.inl (fun _ => 0)))), (q5, .inl (cI, 49152, (.inl (fun _ => 0)))), (q7, .inl (cZ, 768, (.inl (fun _ => 0)))), (q176, .inl (cC, 66, (.inl (g_231))))] H := hP
  have hD : va_D A [(h0, .inr (12, fs_175)), (q1, .inl (cI, 4000, (.inl (fun _ => 0)))), (q3, .inl (cI, 6, (.inl (fun _ => 0)))), (q5, .inl (cI, 49152, (.inl (fun _ => 0)))), (q7, .inl (cZ, 768, (.inl (fun _ => 0)))), (q176, .inl (cC, 66, (.inl (g_231))))] := hD
  refine lv_dup hx hb dX12_init_1078 rfl ?_
  refine lv_bipush (v := 55) hx hb dX12_init_1079 (by decide) ?_
  refine lv_bipush (v := 100) hx hb dX12_init_1081 (by decide) ?_
  refine va_cast hx hb hK hP hD hS 5 4 rfl rfl (vp_in_nI (n := 55) (N := 66) (by decide) (by decide)) dX12_init_1083 (fun H locs hP hD hS => ?_)
  obtain ⟨g_232, eg_232⟩ : ∃ y, y = upd (g_231) (55 : Int32).toNatClampNeg (vp_nar .char 100) := ⟨_, rfl⟩
  rw [← eg_232] at hP hD
  clear eg_232
  have hP : va_P (dC, dI) vwCl [(h0, .inr (12, fs_175)), (q1, .inl (cI, 4000, (.inl (fun _ => 0)))), (q3, .inl (cI, 6, (.inl (fun _ => 0)))), (q5, .inl (cI, 49152, (.inl (fun _ => 0)))), (q7, .inl (cZ, 768, (.inl (fun _ => 0)))), (q176, .inl (cC, 66, (.inl (g_232))))] H := hP
  have hD : va_D A [(h0, .inr (12, fs_175)), (q1, .inl (cI, 4000, (.inl (fun _ => 0)))), (q3, .inl (cI, 6, (.inl (fun _ => 0)))), (q5, .inl (cI, 49152, (.inl (fun _ => 0)))), (q7, .inl (cZ, 768, (.inl (fun _ => 0)))), (q176, .inl (cC, 66, (.inl (g_232))))] := hD
  refine lv_dup hx hb dX12_init_1084 rfl ?_
  refine lv_bipush (v := 56) hx hb dX12_init_1085 (by decide) ?_
  refine lv_bipush (v := 101) hx hb dX12_init_1087 (by decide) ?_
  refine va_cast hx hb hK hP hD hS 5 4 rfl rfl (vp_in_nI (n := 56) (N := 66) (by decide) (by decide)) dX12_init_1089 (fun H locs hP hD hS => ?_)
  obtain ⟨g_233, eg_233⟩ : ∃ y, y = upd (g_232) (56 : Int32).toNatClampNeg (vp_nar .char 101) := ⟨_, rfl⟩
  rw [← eg_233] at hP hD
  clear eg_233
  have hP : va_P (dC, dI) vwCl [(h0, .inr (12, fs_175)), (q1, .inl (cI, 4000, (.inl (fun _ => 0)))), (q3, .inl (cI, 6, (.inl (fun _ => 0)))), (q5, .inl (cI, 49152, (.inl (fun _ => 0)))), (q7, .inl (cZ, 768, (.inl (fun _ => 0)))), (q176, .inl (cC, 66, (.inl (g_233))))] H := hP
  have hD : va_D A [(h0, .inr (12, fs_175)), (q1, .inl (cI, 4000, (.inl (fun _ => 0)))), (q3, .inl (cI, 6, (.inl (fun _ => 0)))), (q5, .inl (cI, 49152, (.inl (fun _ => 0)))), (q7, .inl (cZ, 768, (.inl (fun _ => 0)))), (q176, .inl (cC, 66, (.inl (g_233))))] := hD
  refine lv_dup hx hb dX12_init_1090 rfl ?_
  refine lv_bipush (v := 57) hx hb dX12_init_1091 (by decide) ?_
  refine lv_bipush (v := 112) hx hb dX12_init_1093 (by decide) ?_
  refine va_cast hx hb hK hP hD hS 5 4 rfl rfl (vp_in_nI (n := 57) (N := 66) (by decide) (by decide)) dX12_init_1095 (fun H locs hP hD hS => ?_)
  obtain ⟨g_234, eg_234⟩ : ∃ y, y = upd (g_233) (57 : Int32).toNatClampNeg (vp_nar .char 112) := ⟨_, rfl⟩
  rw [← eg_234] at hP hD
  clear eg_234
  have hP : va_P (dC, dI) vwCl [(h0, .inr (12, fs_175)), (q1, .inl (cI, 4000, (.inl (fun _ => 0)))), (q3, .inl (cI, 6, (.inl (fun _ => 0)))), (q5, .inl (cI, 49152, (.inl (fun _ => 0)))), (q7, .inl (cZ, 768, (.inl (fun _ => 0)))), (q176, .inl (cC, 66, (.inl (g_234))))] H := hP
  have hD : va_D A [(h0, .inr (12, fs_175)), (q1, .inl (cI, 4000, (.inl (fun _ => 0)))), (q3, .inl (cI, 6, (.inl (fun _ => 0)))), (q5, .inl (cI, 49152, (.inl (fun _ => 0)))), (q7, .inl (cZ, 768, (.inl (fun _ => 0)))), (q176, .inl (cC, 66, (.inl (g_234))))] := hD
  refine lv_dup hx hb dX12_init_1096 rfl ?_
  refine lv_bipush (v := 58) hx hb dX12_init_1097 (by decide) ?_
  refine lv_bipush (v := 116) hx hb dX12_init_1099 (by decide) ?_
  refine va_cast hx hb hK hP hD hS 5 4 rfl rfl (vp_in_nI (n := 58) (N := 66) (by decide) (by decide)) dX12_init_1101 (fun H locs hP hD hS => ?_)
  obtain ⟨g_235, eg_235⟩ : ∃ y, y = upd (g_234) (58 : Int32).toNatClampNeg (vp_nar .char 116) := ⟨_, rfl⟩
  rw [← eg_235] at hP hD
  clear eg_235
  have hP : va_P (dC, dI) vwCl [(h0, .inr (12, fs_175)), (q1, .inl (cI, 4000, (.inl (fun _ => 0)))), (q3, .inl (cI, 6, (.inl (fun _ => 0)))), (q5, .inl (cI, 49152, (.inl (fun _ => 0)))), (q7, .inl (cZ, 768, (.inl (fun _ => 0)))), (q176, .inl (cC, 66, (.inl (g_235))))] H := hP
  have hD : va_D A [(h0, .inr (12, fs_175)), (q1, .inl (cI, 4000, (.inl (fun _ => 0)))), (q3, .inl (cI, 6, (.inl (fun _ => 0)))), (q5, .inl (cI, 49152, (.inl (fun _ => 0)))), (q7, .inl (cZ, 768, (.inl (fun _ => 0)))), (q176, .inl (cC, 66, (.inl (g_235))))] := hD
  refine lv_dup hx hb dX12_init_1102 rfl ?_
  refine lv_bipush (v := 59) hx hb dX12_init_1103 (by decide) ?_
  refine lv_bipush (v := 104) hx hb dX12_init_1105 (by decide) ?_
  refine va_cast hx hb hK hP hD hS 5 4 rfl rfl (vp_in_nI (n := 59) (N := 66) (by decide) (by decide)) dX12_init_1107 (fun H locs hP hD hS => ?_)
  obtain ⟨g_236, eg_236⟩ : ∃ y, y = upd (g_235) (59 : Int32).toNatClampNeg (vp_nar .char 104) := ⟨_, rfl⟩
  rw [← eg_236] at hP hD
  clear eg_236
  have hP : va_P (dC, dI) vwCl [(h0, .inr (12, fs_175)), (q1, .inl (cI, 4000, (.inl (fun _ => 0)))), (q3, .inl (cI, 6, (.inl (fun _ => 0)))), (q5, .inl (cI, 49152, (.inl (fun _ => 0)))), (q7, .inl (cZ, 768, (.inl (fun _ => 0)))), (q176, .inl (cC, 66, (.inl (g_236))))] H := hP
  have hD : va_D A [(h0, .inr (12, fs_175)), (q1, .inl (cI, 4000, (.inl (fun _ => 0)))), (q3, .inl (cI, 6, (.inl (fun _ => 0)))), (q5, .inl (cI, 49152, (.inl (fun _ => 0)))), (q7, .inl (cZ, 768, (.inl (fun _ => 0)))), (q176, .inl (cC, 66, (.inl (g_236))))] := hD
  refine lv_dup hx hb dX12_init_1108 rfl ?_
  refine lv_bipush (v := 60) hx hb dX12_init_1109 (by decide) ?_
  refine lv_bipush (v := 32) hx hb dX12_init_1111 (by decide) ?_
  refine va_cast hx hb hK hP hD hS 5 4 rfl rfl (vp_in_nI (n := 60) (N := 66) (by decide) (by decide)) dX12_init_1113 (fun H locs hP hD hS => ?_)
  obtain ⟨g_237, eg_237⟩ : ∃ y, y = upd (g_236) (60 : Int32).toNatClampNeg (vp_nar .char 32) := ⟨_, rfl⟩
  rw [← eg_237] at hP hD
  clear eg_237
  have hP : va_P (dC, dI) vwCl [(h0, .inr (12, fs_175)), (q1, .inl (cI, 4000, (.inl (fun _ => 0)))), (q3, .inl (cI, 6, (.inl (fun _ => 0)))), (q5, .inl (cI, 49152, (.inl (fun _ => 0)))), (q7, .inl (cZ, 768, (.inl (fun _ => 0)))), (q176, .inl (cC, 66, (.inl (g_237))))] H := hP
  have hD : va_D A [(h0, .inr (12, fs_175)), (q1, .inl (cI, 4000, (.inl (fun _ => 0)))), (q3, .inl (cI, 6, (.inl (fun _ => 0)))), (q5, .inl (cI, 49152, (.inl (fun _ => 0)))), (q7, .inl (cZ, 768, (.inl (fun _ => 0)))), (q176, .inl (cC, 66, (.inl (g_237))))] := hD
  refine lv_dup hx hb dX12_init_1114 rfl ?_
  refine lv_bipush (v := 61) hx hb dX12_init_1115 (by decide) ?_
  refine lv_bipush (v := 110) hx hb dX12_init_1117 (by decide) ?_
  refine va_cast hx hb hK hP hD hS 5 4 rfl rfl (vp_in_nI (n := 61) (N := 66) (by decide) (by decide)) dX12_init_1119 (fun H locs hP hD hS => ?_)
  obtain ⟨g_238, eg_238⟩ : ∃ y, y = upd (g_237) (61 : Int32).toNatClampNeg (vp_nar .char 110) := ⟨_, rfl⟩
  rw [← eg_238] at hP hD
  clear eg_238
  have hP : va_P (dC, dI) vwCl [(h0, .inr (12, fs_175)), (q1, .inl (cI, 4000, (.inl (fun _ => 0)))), (q3, .inl (cI, 6, (.inl (fun _ => 0)))), (q5, .inl (cI, 49152, (.inl (fun _ => 0)))), (q7, .inl (cZ, 768, (.inl (fun _ => 0)))), (q176, .inl (cC, 66, (.inl (g_238))))] H := hP
  have hD : va_D A [(h0, .inr (12, fs_175)), (q1, .inl (cI, 4000, (.inl (fun _ => 0)))), (q3, .inl (cI, 6, (.inl (fun _ => 0)))), (q5, .inl (cI, 49152, (.inl (fun _ => 0)))), (q7, .inl (cZ, 768, (.inl (fun _ => 0)))), (q176, .inl (cC, 66, (.inl (g_238))))] := hD
  refine lv_dup hx hb dX12_init_1120 rfl ?_
  refine lv_bipush (v := 62) hx hb dX12_init_1121 (by decide) ?_
  refine lv_bipush (v := 97) hx hb dX12_init_1123 (by decide) ?_
  refine va_cast hx hb hK hP hD hS 5 4 rfl rfl (vp_in_nI (n := 62) (N := 66) (by decide) (by decide)) dX12_init_1125 (fun H locs hP hD hS => ?_)
  obtain ⟨g_239, eg_239⟩ : ∃ y, y = upd (g_238) (62 : Int32).toNatClampNeg (vp_nar .char 97) := ⟨_, rfl⟩
  rw [← eg_239] at hP hD
  clear eg_239
  have hP : va_P (dC, dI) vwCl [(h0, .inr (12, fs_175)), (q1, .inl (cI, 4000, (.inl (fun _ => 0)))), (q3, .inl (cI, 6, (.inl (fun _ => 0)))), (q5, .inl (cI, 49152, (.inl (fun _ => 0)))), (q7, .inl (cZ, 768, (.inl (fun _ => 0)))), (q176, .inl (cC, 66, (.inl (g_239))))] H := hP
  have hD : va_D A [(h0, .inr (12, fs_175)), (q1, .inl (cI, 4000, (.inl (fun _ => 0)))), (q3, .inl (cI, 6, (.inl (fun _ => 0)))), (q5, .inl (cI, 49152, (.inl (fun _ => 0)))), (q7, .inl (cZ, 768, (.inl (fun _ => 0)))), (q176, .inl (cC, 66, (.inl (g_239))))] := hD
  refine lv_dup hx hb dX12_init_1126 rfl ?_
  refine lv_bipush (v := 63) hx hb dX12_init_1127 (by decide) ?_
  refine lv_bipush (v := 109) hx hb dX12_init_1129 (by decide) ?_
  refine va_cast hx hb hK hP hD hS 5 4 rfl rfl (vp_in_nI (n := 63) (N := 66) (by decide) (by decide)) dX12_init_1131 (fun H locs hP hD hS => ?_)
  obtain ⟨g_240, eg_240⟩ : ∃ y, y = upd (g_239) (63 : Int32).toNatClampNeg (vp_nar .char 109) := ⟨_, rfl⟩
  rw [← eg_240] at hP hD
  clear eg_240
  have hP : va_P (dC, dI) vwCl [(h0, .inr (12, fs_175)), (q1, .inl (cI, 4000, (.inl (fun _ => 0)))), (q3, .inl (cI, 6, (.inl (fun _ => 0)))), (q5, .inl (cI, 49152, (.inl (fun _ => 0)))), (q7, .inl (cZ, 768, (.inl (fun _ => 0)))), (q176, .inl (cC, 66, (.inl (g_240))))] H := hP
  have hD : va_D A [(h0, .inr (12, fs_175)), (q1, .inl (cI, 4000, (.inl (fun _ => 0)))), (q3, .inl (cI, 6, (.inl (fun _ => 0)))), (q5, .inl (cI, 49152, (.inl (fun _ => 0)))), (q7, .inl (cZ, 768, (.inl (fun _ => 0)))), (q176, .inl (cC, 66, (.inl (g_240))))] := hD
  refine lv_dup hx hb dX12_init_1132 rfl ?_
  refine lv_bipush (v := 64) hx hb dX12_init_1133 (by decide) ?_
  refine lv_bipush (v := 101) hx hb dX12_init_1135 (by decide) ?_
  refine va_cast hx hb hK hP hD hS 5 4 rfl rfl (vp_in_nI (n := 64) (N := 66) (by decide) (by decide)) dX12_init_1137 (fun H locs hP hD hS => ?_)
  obtain ⟨g_241, eg_241⟩ : ∃ y, y = upd (g_240) (64 : Int32).toNatClampNeg (vp_nar .char 101) := ⟨_, rfl⟩
  rw [← eg_241] at hP hD
  clear eg_241
  have hP : va_P (dC, dI) vwCl [(h0, .inr (12, fs_175)), (q1, .inl (cI, 4000, (.inl (fun _ => 0)))), (q3, .inl (cI, 6, (.inl (fun _ => 0)))), (q5, .inl (cI, 49152, (.inl (fun _ => 0)))), (q7, .inl (cZ, 768, (.inl (fun _ => 0)))), (q176, .inl (cC, 66, (.inl (g_241))))] H := hP
  have hD : va_D A [(h0, .inr (12, fs_175)), (q1, .inl (cI, 4000, (.inl (fun _ => 0)))), (q3, .inl (cI, 6, (.inl (fun _ => 0)))), (q5, .inl (cI, 49152, (.inl (fun _ => 0)))), (q7, .inl (cZ, 768, (.inl (fun _ => 0)))), (q176, .inl (cC, 66, (.inl (g_241))))] := hD
  refine lv_dup hx hb dX12_init_1138 rfl ?_
  refine lv_bipush (v := 65) hx hb dX12_init_1139 (by decide) ?_
  refine lv_bipush (v := 32) hx hb dX12_init_1141 (by decide) ?_
  refine va_cast hx hb hK hP hD hS 5 4 rfl rfl (vp_in_nI (n := 65) (N := 66) (by decide) (by decide)) dX12_init_1143 (fun H locs hP hD hS => ?_)
  obtain ⟨g_242, eg_242⟩ : ∃ y, y = upd (g_241) (65 : Int32).toNatClampNeg (vp_nar .char 32) := ⟨_, rfl⟩
  rw [← eg_242] at hP hD
  clear eg_242
  have hP : va_P (dC, dI) vwCl [(h0, .inr (12, fs_175)), (q1, .inl (cI, 4000, (.inl (fun _ => 0)))), (q3, .inl (cI, 6, (.inl (fun _ => 0)))), (q5, .inl (cI, 49152, (.inl (fun _ => 0)))), (q7, .inl (cZ, 768, (.inl (fun _ => 0)))), (q176, .inl (cC, 66, (.inl (g_242))))] H := hP
  have hD : va_D A [(h0, .inr (12, fs_175)), (q1, .inl (cI, 4000, (.inl (fun _ => 0)))), (q3, .inl (cI, 6, (.inl (fun _ => 0)))), (q5, .inl (cI, 49152, (.inl (fun _ => 0)))), (q7, .inl (cZ, 768, (.inl (fun _ => 0)))), (q176, .inl (cC, 66, (.inl (g_242))))] := hD
  refine va_putF (D := (dC, dI)) (ci := 12) (v := .ref q176) (ty := .array (.char)) (C := RX12) (T := TX12) (N := 172) hx hb hts inX12_init_c12 tyX12 tyX12_ok nmX12 hown hK hP hD hS 0 rfl rfl 132 (by decide) (hts (.fieldLink RX12 281 "DiskEvidenceModel" "fieldWords" "[C") (List.mem_of_getElem? (i := 100) rfl)) (fun _ h9 => h9) rfl hin rfl (by decide +kernel) rfl rfl (by rw [hfl_175]; decide) dX12_init_1144 (fun H locs hP hD hS => ?_)
  have hP : va_P (dC, dI) vwCl [(h0, .inr (12, (fs_175.set 132 (.ref q176)))), (q1, .inl (cI, 4000, (.inl (fun _ => 0)))), (q3, .inl (cI, 6, (.inl (fun _ => 0)))), (q5, .inl (cI, 49152, (.inl (fun _ => 0)))), (q7, .inl (cZ, 768, (.inl (fun _ => 0)))), (q176, .inl (cC, 66, (.inl (g_242))))] H := hP
  have hD : va_D A [(h0, .inr (12, (fs_175.set 132 (.ref q176)))), (q1, .inl (cI, 4000, (.inl (fun _ => 0)))), (q3, .inl (cI, 6, (.inl (fun _ => 0)))), (q5, .inl (cI, 49152, (.inl (fun _ => 0)))), (q7, .inl (cZ, 768, (.inl (fun _ => 0)))), (q176, .inl (cC, 66, (.inl (g_242))))] := hD
  obtain ⟨fs_243, efs_243⟩ : ∃ y, y = (fs_175.set 132 (.ref q176)) := ⟨_, rfl⟩
  rw [← efs_243] at hP hD
  have hfl_243 : fs_243.length = 172 := by rw [efs_243, List.length_set]; exact hfl_175
  have hP := hP.sub (ws' := [(h0, .inr (12, fs_243)), (q1, .inl (cI, 4000, (.inl (fun _ => 0)))), (q3, .inl (cI, 6, (.inl (fun _ => 0)))), (q5, .inl (cI, 49152, (.inl (fun _ => 0)))), (q7, .inl (cZ, 768, (.inl (fun _ => 0))))]) [0, 1, 2, 3, 4] rfl
  have hD := hD.sub (ws' := [(h0, .inr (12, fs_243)), (q1, .inl (cI, 4000, (.inl (fun _ => 0)))), (q3, .inl (cI, 6, (.inl (fun _ => 0)))), (q5, .inl (cI, 49152, (.inl (fun _ => 0)))), (q7, .inl (cZ, 768, (.inl (fun _ => 0))))]) [0, 1, 2, 3, 4] (by decide) rfl
  refine lv_aload_n hx hb dX12_init_1147 rfl (lv_at hl 0 rfl) ?_
  refine lv_bipush (v := 11) hx hb dX12_init_1148 (by decide) ?_
  refine nw_arr (atype := .int) (N' := 11) (a0 := (11, (.inl (fun _ => 0)))) hx hb (hts (.arrayClass .int) (List.mem_of_getElem? (i := 4) rfl)) rfl hK 0 (cI := cI) rfl hP hD hS hA (fun _ => rfl) (by decide) (by decide) (by decide) (Nat.le_of_ble_eq_true rfl) (Nat.le_of_ble_eq_true rfl) dX12_init_1150 (fun q244 H hP hD hS => ?_)
  have hP : va_P (dC, dI) vwCl [(h0, .inr (12, fs_243)), (q1, .inl (cI, 4000, (.inl (fun _ => 0)))), (q3, .inl (cI, 6, (.inl (fun _ => 0)))), (q5, .inl (cI, 49152, (.inl (fun _ => 0)))), (q7, .inl (cZ, 768, (.inl (fun _ => 0)))), (q244, .inl (cI, 11, (.inl (fun _ => 0))))] H := hP
  have hD : va_D A [(h0, .inr (12, fs_243)), (q1, .inl (cI, 4000, (.inl (fun _ => 0)))), (q3, .inl (cI, 6, (.inl (fun _ => 0)))), (q5, .inl (cI, 49152, (.inl (fun _ => 0)))), (q7, .inl (cZ, 768, (.inl (fun _ => 0)))), (q244, .inl (cI, 11, (.inl (fun _ => 0))))] := hD
  refine W.widen (k := 89) (n := 698355) (by decide) (by decide) ?_
  refine lv_dup hx hb dX12_init_1152 rfl ?_
  refine lv_iconst (v := 0) hx hb dX12_init_1153 (by decide) ?_
  refine lv_iconst (v := 0) hx hb dX12_init_1154 (by decide) ?_
  refine va_iast hx hb hK hP hD hS 5 0 rfl rfl (vp_in_nI (n := 0) (N := 11) (by decide) (by decide)) dX12_init_1155 (fun H locs hP hD hS => ?_)
  obtain ⟨g_245, eg_245⟩ : ∃ y, y = upd (fun _ => 0) (0 : Int32).toNatClampNeg 0 := ⟨_, rfl⟩
  rw [← eg_245] at hP hD
  have hP : va_P (dC, dI) vwCl [(h0, .inr (12, fs_243)), (q1, .inl (cI, 4000, (.inl (fun _ => 0)))), (q3, .inl (cI, 6, (.inl (fun _ => 0)))), (q5, .inl (cI, 49152, (.inl (fun _ => 0)))), (q7, .inl (cZ, 768, (.inl (fun _ => 0)))), (q244, .inl (cI, 11, (.inl (g_245))))] H := hP
  have hD : va_D A [(h0, .inr (12, fs_243)), (q1, .inl (cI, 4000, (.inl (fun _ => 0)))), (q3, .inl (cI, 6, (.inl (fun _ => 0)))), (q5, .inl (cI, 49152, (.inl (fun _ => 0)))), (q7, .inl (cZ, 768, (.inl (fun _ => 0)))), (q244, .inl (cI, 11, (.inl (g_245))))] := hD
  refine lv_dup hx hb dX12_init_1156 rfl ?_
  refine lv_iconst (v := 1) hx hb dX12_init_1157 (by decide) ?_
  refine lv_iconst (v := 5) hx hb dX12_init_1158 (by decide) ?_
  refine va_iast hx hb hK hP hD hS 5 0 rfl rfl (vp_in_nI (n := 1) (N := 11) (by decide) (by decide)) dX12_init_1159 (fun H locs hP hD hS => ?_)
  obtain ⟨g_246, eg_246⟩ : ∃ y, y = upd (g_245) (1 : Int32).toNatClampNeg 5 := ⟨_, rfl⟩
  rw [← eg_246] at hP hD
  have hP : va_P (dC, dI) vwCl [(h0, .inr (12, fs_243)), (q1, .inl (cI, 4000, (.inl (fun _ => 0)))), (q3, .inl (cI, 6, (.inl (fun _ => 0)))), (q5, .inl (cI, 49152, (.inl (fun _ => 0)))), (q7, .inl (cZ, 768, (.inl (fun _ => 0)))), (q244, .inl (cI, 11, (.inl (g_246))))] H := hP
  have hD : va_D A [(h0, .inr (12, fs_243)), (q1, .inl (cI, 4000, (.inl (fun _ => 0)))), (q3, .inl (cI, 6, (.inl (fun _ => 0)))), (q5, .inl (cI, 49152, (.inl (fun _ => 0)))), (q7, .inl (cZ, 768, (.inl (fun _ => 0)))), (q244, .inl (cI, 11, (.inl (g_246))))] := hD
  refine lv_dup hx hb dX12_init_1160 rfl ?_
  refine lv_iconst (v := 2) hx hb dX12_init_1161 (by decide) ?_
  refine lv_bipush (v := 10) hx hb dX12_init_1162 (by decide) ?_
  refine va_iast hx hb hK hP hD hS 5 0 rfl rfl (vp_in_nI (n := 2) (N := 11) (by decide) (by decide)) dX12_init_1164 (fun H locs hP hD hS => ?_)
  obtain ⟨g_247, eg_247⟩ : ∃ y, y = upd (g_246) (2 : Int32).toNatClampNeg 10 := ⟨_, rfl⟩
  rw [← eg_247] at hP hD
  have hP : va_P (dC, dI) vwCl [(h0, .inr (12, fs_243)), (q1, .inl (cI, 4000, (.inl (fun _ => 0)))), (q3, .inl (cI, 6, (.inl (fun _ => 0)))), (q5, .inl (cI, 49152, (.inl (fun _ => 0)))), (q7, .inl (cZ, 768, (.inl (fun _ => 0)))), (q244, .inl (cI, 11, (.inl (g_247))))] H := hP
  have hD : va_D A [(h0, .inr (12, fs_243)), (q1, .inl (cI, 4000, (.inl (fun _ => 0)))), (q3, .inl (cI, 6, (.inl (fun _ => 0)))), (q5, .inl (cI, 49152, (.inl (fun _ => 0)))), (q7, .inl (cZ, 768, (.inl (fun _ => 0)))), (q244, .inl (cI, 11, (.inl (g_247))))] := hD
  refine lv_dup hx hb dX12_init_1165 rfl ?_
  refine lv_iconst (v := 3) hx hb dX12_init_1166 (by decide) ?_
  refine lv_bipush (v := 15) hx hb dX12_init_1167 (by decide) ?_
  refine va_iast hx hb hK hP hD hS 5 0 rfl rfl (vp_in_nI (n := 3) (N := 11) (by decide) (by decide)) dX12_init_1169 (fun H locs hP hD hS => ?_)
  obtain ⟨g_248, eg_248⟩ : ∃ y, y = upd (g_247) (3 : Int32).toNatClampNeg 15 := ⟨_, rfl⟩
  rw [← eg_248] at hP hD
  have hP : va_P (dC, dI) vwCl [(h0, .inr (12, fs_243)), (q1, .inl (cI, 4000, (.inl (fun _ => 0)))), (q3, .inl (cI, 6, (.inl (fun _ => 0)))), (q5, .inl (cI, 49152, (.inl (fun _ => 0)))), (q7, .inl (cZ, 768, (.inl (fun _ => 0)))), (q244, .inl (cI, 11, (.inl (g_248))))] H := hP
  have hD : va_D A [(h0, .inr (12, fs_243)), (q1, .inl (cI, 4000, (.inl (fun _ => 0)))), (q3, .inl (cI, 6, (.inl (fun _ => 0)))), (q5, .inl (cI, 49152, (.inl (fun _ => 0)))), (q7, .inl (cZ, 768, (.inl (fun _ => 0)))), (q244, .inl (cI, 11, (.inl (g_248))))] := hD
  refine lv_dup hx hb dX12_init_1170 rfl ?_
  refine lv_iconst (v := 4) hx hb dX12_init_1171 (by decide) ?_
  refine lv_bipush (v := 23) hx hb dX12_init_1172 (by decide) ?_
  refine va_iast hx hb hK hP hD hS 5 0 rfl rfl (vp_in_nI (n := 4) (N := 11) (by decide) (by decide)) dX12_init_1174 (fun H locs hP hD hS => ?_)
  obtain ⟨g_249, eg_249⟩ : ∃ y, y = upd (g_248) (4 : Int32).toNatClampNeg 23 := ⟨_, rfl⟩
  rw [← eg_249] at hP hD
  have hP : va_P (dC, dI) vwCl [(h0, .inr (12, fs_243)), (q1, .inl (cI, 4000, (.inl (fun _ => 0)))), (q3, .inl (cI, 6, (.inl (fun _ => 0)))), (q5, .inl (cI, 49152, (.inl (fun _ => 0)))), (q7, .inl (cZ, 768, (.inl (fun _ => 0)))), (q244, .inl (cI, 11, (.inl (g_249))))] H := hP
  have hD : va_D A [(h0, .inr (12, fs_243)), (q1, .inl (cI, 4000, (.inl (fun _ => 0)))), (q3, .inl (cI, 6, (.inl (fun _ => 0)))), (q5, .inl (cI, 49152, (.inl (fun _ => 0)))), (q7, .inl (cZ, 768, (.inl (fun _ => 0)))), (q244, .inl (cI, 11, (.inl (g_249))))] := hD
  refine lv_dup hx hb dX12_init_1175 rfl ?_
  refine lv_iconst (v := 5) hx hb dX12_init_1176 (by decide) ?_
  refine lv_bipush (v := 30) hx hb dX12_init_1177 (by decide) ?_
  refine va_iast hx hb hK hP hD hS 5 0 rfl rfl (vp_in_nI (n := 5) (N := 11) (by decide) (by decide)) dX12_init_1179 (fun H locs hP hD hS => ?_)
  obtain ⟨g_250, eg_250⟩ : ∃ y, y = upd (g_249) (5 : Int32).toNatClampNeg 30 := ⟨_, rfl⟩
  rw [← eg_250] at hP hD
  have hP : va_P (dC, dI) vwCl [(h0, .inr (12, fs_243)), (q1, .inl (cI, 4000, (.inl (fun _ => 0)))), (q3, .inl (cI, 6, (.inl (fun _ => 0)))), (q5, .inl (cI, 49152, (.inl (fun _ => 0)))), (q7, .inl (cZ, 768, (.inl (fun _ => 0)))), (q244, .inl (cI, 11, (.inl (g_250))))] H := hP
  have hD : va_D A [(h0, .inr (12, fs_243)), (q1, .inl (cI, 4000, (.inl (fun _ => 0)))), (q3, .inl (cI, 6, (.inl (fun _ => 0)))), (q5, .inl (cI, 49152, (.inl (fun _ => 0)))), (q7, .inl (cZ, 768, (.inl (fun _ => 0)))), (q244, .inl (cI, 11, (.inl (g_250))))] := hD
  refine lv_dup hx hb dX12_init_1180 rfl ?_
  refine lv_bipush (v := 6) hx hb dX12_init_1181 (by decide) ?_
  refine lv_bipush (v := 36) hx hb dX12_init_1183 (by decide) ?_
  refine va_iast hx hb hK hP hD hS 5 0 rfl rfl (vp_in_nI (n := 6) (N := 11) (by decide) (by decide)) dX12_init_1185 (fun H locs hP hD hS => ?_)
  obtain ⟨g_251, eg_251⟩ : ∃ y, y = upd (g_250) (6 : Int32).toNatClampNeg 36 := ⟨_, rfl⟩
  rw [← eg_251] at hP hD
  have hP : va_P (dC, dI) vwCl [(h0, .inr (12, fs_243)), (q1, .inl (cI, 4000, (.inl (fun _ => 0)))), (q3, .inl (cI, 6, (.inl (fun _ => 0)))), (q5, .inl (cI, 49152, (.inl (fun _ => 0)))), (q7, .inl (cZ, 768, (.inl (fun _ => 0)))), (q244, .inl (cI, 11, (.inl (g_251))))] H := hP
  have hD : va_D A [(h0, .inr (12, fs_243)), (q1, .inl (cI, 4000, (.inl (fun _ => 0)))), (q3, .inl (cI, 6, (.inl (fun _ => 0)))), (q5, .inl (cI, 49152, (.inl (fun _ => 0)))), (q7, .inl (cZ, 768, (.inl (fun _ => 0)))), (q244, .inl (cI, 11, (.inl (g_251))))] := hD
  refine lv_dup hx hb dX12_init_1186 rfl ?_
  refine lv_bipush (v := 7) hx hb dX12_init_1187 (by decide) ?_
  refine lv_bipush (v := 42) hx hb dX12_init_1189 (by decide) ?_
  refine va_iast hx hb hK hP hD hS 5 0 rfl rfl (vp_in_nI (n := 7) (N := 11) (by decide) (by decide)) dX12_init_1191 (fun H locs hP hD hS => ?_)
  obtain ⟨g_252, eg_252⟩ : ∃ y, y = upd (g_251) (7 : Int32).toNatClampNeg 42 := ⟨_, rfl⟩
  rw [← eg_252] at hP hD
  have hP : va_P (dC, dI) vwCl [(h0, .inr (12, fs_243)), (q1, .inl (cI, 4000, (.inl (fun _ => 0)))), (q3, .inl (cI, 6, (.inl (fun _ => 0)))), (q5, .inl (cI, 49152, (.inl (fun _ => 0)))), (q7, .inl (cZ, 768, (.inl (fun _ => 0)))), (q244, .inl (cI, 11, (.inl (g_252))))] H := hP
  have hD : va_D A [(h0, .inr (12, fs_243)), (q1, .inl (cI, 4000, (.inl (fun _ => 0)))), (q3, .inl (cI, 6, (.inl (fun _ => 0)))), (q5, .inl (cI, 49152, (.inl (fun _ => 0)))), (q7, .inl (cZ, 768, (.inl (fun _ => 0)))), (q244, .inl (cI, 11, (.inl (g_252))))] := hD
  refine lv_dup hx hb dX12_init_1192 rfl ?_
  refine lv_bipush (v := 8) hx hb dX12_init_1193 (by decide) ?_
  refine lv_bipush (v := 48) hx hb dX12_init_1195 (by decide) ?_
  refine va_iast hx hb hK hP hD hS 5 0 rfl rfl (vp_in_nI (n := 8) (N := 11) (by decide) (by decide)) dX12_init_1197 (fun H locs hP hD hS => ?_)
  obtain ⟨g_253, eg_253⟩ : ∃ y, y = upd (g_252) (8 : Int32).toNatClampNeg 48 := ⟨_, rfl⟩
  rw [← eg_253] at hP hD
  have hP : va_P (dC, dI) vwCl [(h0, .inr (12, fs_243)), (q1, .inl (cI, 4000, (.inl (fun _ => 0)))), (q3, .inl (cI, 6, (.inl (fun _ => 0)))), (q5, .inl (cI, 49152, (.inl (fun _ => 0)))), (q7, .inl (cZ, 768, (.inl (fun _ => 0)))), (q244, .inl (cI, 11, (.inl (g_253))))] H := hP
  have hD : va_D A [(h0, .inr (12, fs_243)), (q1, .inl (cI, 4000, (.inl (fun _ => 0)))), (q3, .inl (cI, 6, (.inl (fun _ => 0)))), (q5, .inl (cI, 49152, (.inl (fun _ => 0)))), (q7, .inl (cZ, 768, (.inl (fun _ => 0)))), (q244, .inl (cI, 11, (.inl (g_253))))] := hD
  refine lv_dup hx hb dX12_init_1198 rfl ?_
  refine lv_bipush (v := 9) hx hb dX12_init_1199 (by decide) ?_
  refine lv_bipush (v := 55) hx hb dX12_init_1201 (by decide) ?_
  refine va_iast hx hb hK hP hD hS 5 0 rfl rfl (vp_in_nI (n := 9) (N := 11) (by decide) (by decide)) dX12_init_1203 (fun H locs hP hD hS => ?_)
  obtain ⟨g_254, eg_254⟩ : ∃ y, y = upd (g_253) (9 : Int32).toNatClampNeg 55 := ⟨_, rfl⟩
  rw [← eg_254] at hP hD
  have hP : va_P (dC, dI) vwCl [(h0, .inr (12, fs_243)), (q1, .inl (cI, 4000, (.inl (fun _ => 0)))), (q3, .inl (cI, 6, (.inl (fun _ => 0)))), (q5, .inl (cI, 49152, (.inl (fun _ => 0)))), (q7, .inl (cZ, 768, (.inl (fun _ => 0)))), (q244, .inl (cI, 11, (.inl (g_254))))] H := hP
  have hD : va_D A [(h0, .inr (12, fs_243)), (q1, .inl (cI, 4000, (.inl (fun _ => 0)))), (q3, .inl (cI, 6, (.inl (fun _ => 0)))), (q5, .inl (cI, 49152, (.inl (fun _ => 0)))), (q7, .inl (cZ, 768, (.inl (fun _ => 0)))), (q244, .inl (cI, 11, (.inl (g_254))))] := hD
  refine lv_dup hx hb dX12_init_1204 rfl ?_
  refine lv_bipush (v := 10) hx hb dX12_init_1205 (by decide) ?_
  refine lv_bipush (v := 61) hx hb dX12_init_1207 (by decide) ?_
  refine va_iast hx hb hK hP hD hS 5 0 rfl rfl (vp_in_nI (n := 10) (N := 11) (by decide) (by decide)) dX12_init_1209 (fun H locs hP hD hS => ?_)
  obtain ⟨g_255, eg_255⟩ : ∃ y, y = upd (g_254) (10 : Int32).toNatClampNeg 61 := ⟨_, rfl⟩
  rw [← eg_255] at hP hD
  have hP : va_P (dC, dI) vwCl [(h0, .inr (12, fs_243)), (q1, .inl (cI, 4000, (.inl (fun _ => 0)))), (q3, .inl (cI, 6, (.inl (fun _ => 0)))), (q5, .inl (cI, 49152, (.inl (fun _ => 0)))), (q7, .inl (cZ, 768, (.inl (fun _ => 0)))), (q244, .inl (cI, 11, (.inl (g_255))))] H := hP
  have hD : va_D A [(h0, .inr (12, fs_243)), (q1, .inl (cI, 4000, (.inl (fun _ => 0)))), (q3, .inl (cI, 6, (.inl (fun _ => 0)))), (q5, .inl (cI, 49152, (.inl (fun _ => 0)))), (q7, .inl (cZ, 768, (.inl (fun _ => 0)))), (q244, .inl (cI, 11, (.inl (g_255))))] := hD
  refine va_putF (D := (dC, dI)) (ci := 12) (v := .ref q244) (ty := .array (.int)) (C := RX12) (T := TX12) (N := 172) hx hb hts inX12_init_c12 tyX12 tyX12_ok nmX12 hown hK hP hD hS 0 rfl rfl 133 (by decide) (hts (.fieldLink RX12 285 "DiskEvidenceModel" "wordFrom" "[I") (List.mem_of_getElem? (i := 101) rfl)) (fun _ h9 => h9) rfl hin rfl (by decide +kernel) rfl rfl (by rw [hfl_243]; decide) dX12_init_1210 (fun H locs hP hD hS => ?_)
  have hP : va_P (dC, dI) vwCl [(h0, .inr (12, (fs_243.set 133 (.ref q244)))), (q1, .inl (cI, 4000, (.inl (fun _ => 0)))), (q3, .inl (cI, 6, (.inl (fun _ => 0)))), (q5, .inl (cI, 49152, (.inl (fun _ => 0)))), (q7, .inl (cZ, 768, (.inl (fun _ => 0)))), (q244, .inl (cI, 11, (.inl (g_255))))] H := hP
  have hD : va_D A [(h0, .inr (12, (fs_243.set 133 (.ref q244)))), (q1, .inl (cI, 4000, (.inl (fun _ => 0)))), (q3, .inl (cI, 6, (.inl (fun _ => 0)))), (q5, .inl (cI, 49152, (.inl (fun _ => 0)))), (q7, .inl (cZ, 768, (.inl (fun _ => 0)))), (q244, .inl (cI, 11, (.inl (g_255))))] := hD
  obtain ⟨fs_256, efs_256⟩ : ∃ y, y = (fs_243.set 133 (.ref q244)) := ⟨_, rfl⟩
  rw [← efs_256] at hP hD
  have hfl_256 : fs_256.length = 172 := by rw [efs_256, List.length_set]; exact hfl_243
  have hP := hP.sub (ws' := [(h0, .inr (12, fs_256)), (q1, .inl (cI, 4000, (.inl (fun _ => 0)))), (q3, .inl (cI, 6, (.inl (fun _ => 0)))), (q5, .inl (cI, 49152, (.inl (fun _ => 0)))), (q7, .inl (cZ, 768, (.inl (fun _ => 0))))]) [0, 1, 2, 3, 4] rfl
  have hD := hD.sub (ws' := [(h0, .inr (12, fs_256)), (q1, .inl (cI, 4000, (.inl (fun _ => 0)))), (q3, .inl (cI, 6, (.inl (fun _ => 0)))), (q5, .inl (cI, 49152, (.inl (fun _ => 0)))), (q7, .inl (cZ, 768, (.inl (fun _ => 0))))]) [0, 1, 2, 3, 4] (by decide) rfl
  refine lv_aload_n hx hb dX12_init_1213 rfl (lv_at hl 0 rfl) ?_
  refine lv_iconst (v := 4) hx hb dX12_init_1214 (by decide) ?_
  refine nw_arr (atype := .char) (N' := 4) (a0 := (4, (.inl (fun _ => 0)))) hx hb (hts (.arrayClass .char) (List.mem_of_getElem? (i := 99) rfl)) rfl hK 4 (cI := cC) rfl hP hD hS hA (fun _ => rfl) (by decide) (by decide) (by decide) (Nat.le_of_ble_eq_true rfl) (Nat.le_of_ble_eq_true rfl) dX12_init_1215 (fun q257 H hP hD hS => ?_)
  have hP : va_P (dC, dI) vwCl [(h0, .inr (12, fs_256)), (q1, .inl (cI, 4000, (.inl (fun _ => 0)))), (q3, .inl (cI, 6, (.inl (fun _ => 0)))), (q5, .inl (cI, 49152, (.inl (fun _ => 0)))), (q7, .inl (cZ, 768, (.inl (fun _ => 0)))), (q257, .inl (cC, 4, (.inl (fun _ => 0))))] H := hP
  have hD : va_D A [(h0, .inr (12, fs_256)), (q1, .inl (cI, 4000, (.inl (fun _ => 0)))), (q3, .inl (cI, 6, (.inl (fun _ => 0)))), (q5, .inl (cI, 49152, (.inl (fun _ => 0)))), (q7, .inl (cZ, 768, (.inl (fun _ => 0)))), (q257, .inl (cC, 4, (.inl (fun _ => 0))))] := hD
  refine W.widen (k := 90) (n := 698359) (by decide) (by decide) ?_
  refine lv_dup hx hb dX12_init_1217 rfl ?_
  refine lv_iconst (v := 0) hx hb dX12_init_1218 (by decide) ?_
  refine lv_bipush (v := 115) hx hb dX12_init_1219 (by decide) ?_
  refine va_cast hx hb hK hP hD hS 5 4 rfl rfl (vp_in_nI (n := 0) (N := 4) (by decide) (by decide)) dX12_init_1221 (fun H locs hP hD hS => ?_)
  obtain ⟨g_258, eg_258⟩ : ∃ y, y = upd (fun _ => 0) (0 : Int32).toNatClampNeg (vp_nar .char 115) := ⟨_, rfl⟩
  rw [← eg_258] at hP hD
  clear eg_258
  have hP : va_P (dC, dI) vwCl [(h0, .inr (12, fs_256)), (q1, .inl (cI, 4000, (.inl (fun _ => 0)))), (q3, .inl (cI, 6, (.inl (fun _ => 0)))), (q5, .inl (cI, 49152, (.inl (fun _ => 0)))), (q7, .inl (cZ, 768, (.inl (fun _ => 0)))), (q257, .inl (cC, 4, (.inl (g_258))))] H := hP
  have hD : va_D A [(h0, .inr (12, fs_256)), (q1, .inl (cI, 4000, (.inl (fun _ => 0)))), (q3, .inl (cI, 6, (.inl (fun _ => 0)))), (q5, .inl (cI, 49152, (.inl (fun _ => 0)))), (q7, .inl (cZ, 768, (.inl (fun _ => 0)))), (q257, .inl (cC, 4, (.inl (g_258))))] := hD
  refine lv_dup hx hb dX12_init_1222 rfl ?_
  refine lv_iconst (v := 1) hx hb dX12_init_1223 (by decide) ?_
  refine lv_bipush (v := 111) hx hb dX12_init_1224 (by decide) ?_
  refine va_cast hx hb hK hP hD hS 5 4 rfl rfl (vp_in_nI (n := 1) (N := 4) (by decide) (by decide)) dX12_init_1226 (fun H locs hP hD hS => ?_)
  obtain ⟨g_259, eg_259⟩ : ∃ y, y = upd (g_258) (1 : Int32).toNatClampNeg (vp_nar .char 111) := ⟨_, rfl⟩
  rw [← eg_259] at hP hD
  clear eg_259
  have hP : va_P (dC, dI) vwCl [(h0, .inr (12, fs_256)), (q1, .inl (cI, 4000, (.inl (fun _ => 0)))), (q3, .inl (cI, 6, (.inl (fun _ => 0)))), (q5, .inl (cI, 49152, (.inl (fun _ => 0)))), (q7, .inl (cZ, 768, (.inl (fun _ => 0)))), (q257, .inl (cC, 4, (.inl (g_259))))] H := hP
  have hD : va_D A [(h0, .inr (12, fs_256)), (q1, .inl (cI, 4000, (.inl (fun _ => 0)))), (q3, .inl (cI, 6, (.inl (fun _ => 0)))), (q5, .inl (cI, 49152, (.inl (fun _ => 0)))), (q7, .inl (cZ, 768, (.inl (fun _ => 0)))), (q257, .inl (cC, 4, (.inl (g_259))))] := hD
  refine lv_dup hx hb dX12_init_1227 rfl ?_
  refine lv_iconst (v := 2) hx hb dX12_init_1228 (by decide) ?_
  refine lv_bipush (v := 114) hx hb dX12_init_1229 (by decide) ?_
  refine va_cast hx hb hK hP hD hS 5 4 rfl rfl (vp_in_nI (n := 2) (N := 4) (by decide) (by decide)) dX12_init_1231 (fun H locs hP hD hS => ?_)
  obtain ⟨g_260, eg_260⟩ : ∃ y, y = upd (g_259) (2 : Int32).toNatClampNeg (vp_nar .char 114) := ⟨_, rfl⟩
  rw [← eg_260] at hP hD
  clear eg_260
  have hP : va_P (dC, dI) vwCl [(h0, .inr (12, fs_256)), (q1, .inl (cI, 4000, (.inl (fun _ => 0)))), (q3, .inl (cI, 6, (.inl (fun _ => 0)))), (q5, .inl (cI, 49152, (.inl (fun _ => 0)))), (q7, .inl (cZ, 768, (.inl (fun _ => 0)))), (q257, .inl (cC, 4, (.inl (g_260))))] H := hP
  have hD : va_D A [(h0, .inr (12, fs_256)), (q1, .inl (cI, 4000, (.inl (fun _ => 0)))), (q3, .inl (cI, 6, (.inl (fun _ => 0)))), (q5, .inl (cI, 49152, (.inl (fun _ => 0)))), (q7, .inl (cZ, 768, (.inl (fun _ => 0)))), (q257, .inl (cC, 4, (.inl (g_260))))] := hD
  refine lv_dup hx hb dX12_init_1232 rfl ?_
  refine lv_iconst (v := 3) hx hb dX12_init_1233 (by decide) ?_
  refine lv_bipush (v := 116) hx hb dX12_init_1234 (by decide) ?_
  refine va_cast hx hb hK hP hD hS 5 4 rfl rfl (vp_in_nI (n := 3) (N := 4) (by decide) (by decide)) dX12_init_1236 (fun H locs hP hD hS => ?_)
  obtain ⟨g_261, eg_261⟩ : ∃ y, y = upd (g_260) (3 : Int32).toNatClampNeg (vp_nar .char 116) := ⟨_, rfl⟩
  rw [← eg_261] at hP hD
  clear eg_261
  have hP : va_P (dC, dI) vwCl [(h0, .inr (12, fs_256)), (q1, .inl (cI, 4000, (.inl (fun _ => 0)))), (q3, .inl (cI, 6, (.inl (fun _ => 0)))), (q5, .inl (cI, 49152, (.inl (fun _ => 0)))), (q7, .inl (cZ, 768, (.inl (fun _ => 0)))), (q257, .inl (cC, 4, (.inl (g_261))))] H := hP
  have hD : va_D A [(h0, .inr (12, fs_256)), (q1, .inl (cI, 4000, (.inl (fun _ => 0)))), (q3, .inl (cI, 6, (.inl (fun _ => 0)))), (q5, .inl (cI, 49152, (.inl (fun _ => 0)))), (q7, .inl (cZ, 768, (.inl (fun _ => 0)))), (q257, .inl (cC, 4, (.inl (g_261))))] := hD
  refine va_putF (D := (dC, dI)) (ci := 12) (v := .ref q257) (ty := .array (.char)) (C := RX12) (T := TX12) (N := 172) hx hb hts inX12_init_c12 tyX12 tyX12_ok nmX12 hown hK hP hD hS 0 rfl rfl 134 (by decide) (hts (.fieldLink RX12 288 "DiskEvidenceModel" "sortWord" "[C") (List.mem_of_getElem? (i := 102) rfl)) (fun _ h9 => h9) rfl hin rfl (by decide +kernel) rfl rfl (by rw [hfl_256]; decide) dX12_init_1237 (fun H locs hP hD hS => ?_)
  have hP : va_P (dC, dI) vwCl [(h0, .inr (12, (fs_256.set 134 (.ref q257)))), (q1, .inl (cI, 4000, (.inl (fun _ => 0)))), (q3, .inl (cI, 6, (.inl (fun _ => 0)))), (q5, .inl (cI, 49152, (.inl (fun _ => 0)))), (q7, .inl (cZ, 768, (.inl (fun _ => 0)))), (q257, .inl (cC, 4, (.inl (g_261))))] H := hP
  have hD : va_D A [(h0, .inr (12, (fs_256.set 134 (.ref q257)))), (q1, .inl (cI, 4000, (.inl (fun _ => 0)))), (q3, .inl (cI, 6, (.inl (fun _ => 0)))), (q5, .inl (cI, 49152, (.inl (fun _ => 0)))), (q7, .inl (cZ, 768, (.inl (fun _ => 0)))), (q257, .inl (cC, 4, (.inl (g_261))))] := hD
  obtain ⟨fs_262, efs_262⟩ : ∃ y, y = (fs_256.set 134 (.ref q257)) := ⟨_, rfl⟩
  rw [← efs_262] at hP hD
  have hfl_262 : fs_262.length = 172 := by rw [efs_262, List.length_set]; exact hfl_256
  have hP := hP.sub (ws' := [(h0, .inr (12, fs_262)), (q1, .inl (cI, 4000, (.inl (fun _ => 0)))), (q3, .inl (cI, 6, (.inl (fun _ => 0)))), (q5, .inl (cI, 49152, (.inl (fun _ => 0)))), (q7, .inl (cZ, 768, (.inl (fun _ => 0))))]) [0, 1, 2, 3, 4] rfl
  have hD := hD.sub (ws' := [(h0, .inr (12, fs_262)), (q1, .inl (cI, 4000, (.inl (fun _ => 0)))), (q3, .inl (cI, 6, (.inl (fun _ => 0)))), (q5, .inl (cI, 49152, (.inl (fun _ => 0)))), (q7, .inl (cZ, 768, (.inl (fun _ => 0))))]) [0, 1, 2, 3, 4] (by decide) rfl
  refine lv_aload_n hx hb dX12_init_1240 rfl (lv_at hl 0 rfl) ?_
  refine lv_sipush (v := 4096) hx hb dX12_init_1241 (by decide) ?_
  refine nw_arr (atype := .int) (N' := 4096) (a0 := (4096, (.inl (fun _ => 0)))) hx hb (hts (.arrayClass .int) (List.mem_of_getElem? (i := 4) rfl)) rfl hK 0 (cI := cI) rfl hP hD hS hA (fun _ => rfl) (by decide) (by decide) (by decide) (Nat.le_of_ble_eq_true rfl) (Nat.le_of_ble_eq_true rfl) dX12_init_1244 (fun q263 H hP hD hS => ?_)
  have hP : va_P (dC, dI) vwCl [(h0, .inr (12, fs_262)), (q1, .inl (cI, 4000, (.inl (fun _ => 0)))), (q3, .inl (cI, 6, (.inl (fun _ => 0)))), (q5, .inl (cI, 49152, (.inl (fun _ => 0)))), (q7, .inl (cZ, 768, (.inl (fun _ => 0)))), (q263, .inl (cI, 4096, (.inl (fun _ => 0))))] H := hP
  have hD : va_D A [(h0, .inr (12, fs_262)), (q1, .inl (cI, 4000, (.inl (fun _ => 0)))), (q3, .inl (cI, 6, (.inl (fun _ => 0)))), (q5, .inl (cI, 49152, (.inl (fun _ => 0)))), (q7, .inl (cZ, 768, (.inl (fun _ => 0)))), (q263, .inl (cI, 4096, (.inl (fun _ => 0))))] := hD
  refine W.widen (k := 91) (n := 702455) (by decide) (by decide) ?_
  refine va_putF (D := (dC, dI)) (ci := 12) (v := .ref q263) (ty := .array (.int)) (C := RX12) (T := TX12) (N := 172) hx hb hts inX12_init_c12 tyX12 tyX12_ok nmX12 hown hK hP hD hS 0 rfl rfl 138 (by decide) (hts (.fieldLink RX12 291 "DiskEvidenceModel" "ops" "[I") (List.mem_of_getElem? (i := 103) rfl)) (fun _ h9 => h9) rfl hin rfl (by decide +kernel) rfl rfl (by rw [hfl_262]; decide) dX12_init_1246 (fun H locs hP hD hS => ?_)
  have hP : va_P (dC, dI) vwCl [(h0, .inr (12, (fs_262.set 138 (.ref q263)))), (q1, .inl (cI, 4000, (.inl (fun _ => 0)))), (q3, .inl (cI, 6, (.inl (fun _ => 0)))), (q5, .inl (cI, 49152, (.inl (fun _ => 0)))), (q7, .inl (cZ, 768, (.inl (fun _ => 0)))), (q263, .inl (cI, 4096, (.inl (fun _ => 0))))] H := hP
  have hD : va_D A [(h0, .inr (12, (fs_262.set 138 (.ref q263)))), (q1, .inl (cI, 4000, (.inl (fun _ => 0)))), (q3, .inl (cI, 6, (.inl (fun _ => 0)))), (q5, .inl (cI, 49152, (.inl (fun _ => 0)))), (q7, .inl (cZ, 768, (.inl (fun _ => 0)))), (q263, .inl (cI, 4096, (.inl (fun _ => 0))))] := hD
  obtain ⟨fs_264, efs_264⟩ : ∃ y, y = (fs_262.set 138 (.ref q263)) := ⟨_, rfl⟩
  rw [← efs_264] at hP hD
  have hfl_264 : fs_264.length = 172 := by rw [efs_264, List.length_set]; exact hfl_262
  have hP := hP.sub (ws' := [(h0, .inr (12, fs_264)), (q1, .inl (cI, 4000, (.inl (fun _ => 0)))), (q3, .inl (cI, 6, (.inl (fun _ => 0)))), (q5, .inl (cI, 49152, (.inl (fun _ => 0)))), (q7, .inl (cZ, 768, (.inl (fun _ => 0))))]) [0, 1, 2, 3, 4] rfl
  have hD := hD.sub (ws' := [(h0, .inr (12, fs_264)), (q1, .inl (cI, 4000, (.inl (fun _ => 0)))), (q3, .inl (cI, 6, (.inl (fun _ => 0)))), (q5, .inl (cI, 49152, (.inl (fun _ => 0)))), (q7, .inl (cZ, 768, (.inl (fun _ => 0))))]) [0, 1, 2, 3, 4] (by decide) rfl
  refine lv_aload_n hx hb dX12_init_1249 rfl (lv_at hl 0 rfl) ?_
  refine lv_sipush (v := 4096) hx hb dX12_init_1250 (by decide) ?_
  refine nw_arr (atype := .int) (N' := 4096) (a0 := (4096, (.inl (fun _ => 0)))) hx hb (hts (.arrayClass .int) (List.mem_of_getElem? (i := 4) rfl)) rfl hK 0 (cI := cI) rfl hP hD hS hA (fun _ => rfl) (by decide) (by decide) (by decide) (Nat.le_of_ble_eq_true rfl) (Nat.le_of_ble_eq_true rfl) dX12_init_1253 (fun q265 H hP hD hS => ?_)
  have hP : va_P (dC, dI) vwCl [(h0, .inr (12, fs_264)), (q1, .inl (cI, 4000, (.inl (fun _ => 0)))), (q3, .inl (cI, 6, (.inl (fun _ => 0)))), (q5, .inl (cI, 49152, (.inl (fun _ => 0)))), (q7, .inl (cZ, 768, (.inl (fun _ => 0)))), (q265, .inl (cI, 4096, (.inl (fun _ => 0))))] H := hP
  have hD : va_D A [(h0, .inr (12, fs_264)), (q1, .inl (cI, 4000, (.inl (fun _ => 0)))), (q3, .inl (cI, 6, (.inl (fun _ => 0)))), (q5, .inl (cI, 49152, (.inl (fun _ => 0)))), (q7, .inl (cZ, 768, (.inl (fun _ => 0)))), (q265, .inl (cI, 4096, (.inl (fun _ => 0))))] := hD
  refine W.widen (k := 92) (n := 706551) (by decide) (by decide) ?_
  refine va_putF (D := (dC, dI)) (ci := 12) (v := .ref q265) (ty := .array (.int)) (C := RX12) (T := TX12) (N := 172) hx hb hts inX12_init_c12 tyX12 tyX12_ok nmX12 hown hK hP hD hS 0 rfl rfl 140 (by decide) (hts (.fieldLink RX12 294 "DiskEvidenceModel" "pile" "[I") (List.mem_of_getElem? (i := 104) rfl)) (fun _ h9 => h9) rfl hin rfl (by decide +kernel) rfl rfl (by rw [hfl_264]; decide) dX12_init_1255 (fun H locs hP hD hS => ?_)
  have hP : va_P (dC, dI) vwCl [(h0, .inr (12, (fs_264.set 140 (.ref q265)))), (q1, .inl (cI, 4000, (.inl (fun _ => 0)))), (q3, .inl (cI, 6, (.inl (fun _ => 0)))), (q5, .inl (cI, 49152, (.inl (fun _ => 0)))), (q7, .inl (cZ, 768, (.inl (fun _ => 0)))), (q265, .inl (cI, 4096, (.inl (fun _ => 0))))] H := hP
  have hD : va_D A [(h0, .inr (12, (fs_264.set 140 (.ref q265)))), (q1, .inl (cI, 4000, (.inl (fun _ => 0)))), (q3, .inl (cI, 6, (.inl (fun _ => 0)))), (q5, .inl (cI, 49152, (.inl (fun _ => 0)))), (q7, .inl (cZ, 768, (.inl (fun _ => 0)))), (q265, .inl (cI, 4096, (.inl (fun _ => 0))))] := hD
  obtain ⟨fs_266, efs_266⟩ : ∃ y, y = (fs_264.set 140 (.ref q265)) := ⟨_, rfl⟩
  rw [← efs_266] at hP hD
  have hfl_266 : fs_266.length = 172 := by rw [efs_266, List.length_set]; exact hfl_264
  have hP := hP.sub (ws' := [(h0, .inr (12, fs_266)), (q1, .inl (cI, 4000, (.inl (fun _ => 0)))), (q3, .inl (cI, 6, (.inl (fun _ => 0)))), (q5, .inl (cI, 49152, (.inl (fun _ => 0)))), (q7, .inl (cZ, 768, (.inl (fun _ => 0))))]) [0, 1, 2, 3, 4] rfl
  have hD := hD.sub (ws' := [(h0, .inr (12, fs_266)), (q1, .inl (cI, 4000, (.inl (fun _ => 0)))), (q3, .inl (cI, 6, (.inl (fun _ => 0)))), (q5, .inl (cI, 49152, (.inl (fun _ => 0)))), (q7, .inl (cZ, 768, (.inl (fun _ => 0))))]) [0, 1, 2, 3, 4] (by decide) rfl
  refine lv_aload_n hx hb dX12_init_1258 rfl (lv_at hl 0 rfl) ?_
  refine lv_sipush (v := 2048) hx hb dX12_init_1259 (by decide) ?_
  refine nw_arr (atype := .int) (N' := 2048) (a0 := (2048, (.inl (fun _ => 0)))) hx hb (hts (.arrayClass .int) (List.mem_of_getElem? (i := 4) rfl)) rfl hK 0 (cI := cI) rfl hP hD hS hA (fun _ => rfl) (by decide) (by decide) (by decide) (Nat.le_of_ble_eq_true rfl) (Nat.le_of_ble_eq_true rfl) dX12_init_1262 (fun q267 H hP hD hS => ?_)
  have hP : va_P (dC, dI) vwCl [(h0, .inr (12, fs_266)), (q1, .inl (cI, 4000, (.inl (fun _ => 0)))), (q3, .inl (cI, 6, (.inl (fun _ => 0)))), (q5, .inl (cI, 49152, (.inl (fun _ => 0)))), (q7, .inl (cZ, 768, (.inl (fun _ => 0)))), (q267, .inl (cI, 2048, (.inl (fun _ => 0))))] H := hP
  have hD : va_D A [(h0, .inr (12, fs_266)), (q1, .inl (cI, 4000, (.inl (fun _ => 0)))), (q3, .inl (cI, 6, (.inl (fun _ => 0)))), (q5, .inl (cI, 49152, (.inl (fun _ => 0)))), (q7, .inl (cZ, 768, (.inl (fun _ => 0)))), (q267, .inl (cI, 2048, (.inl (fun _ => 0))))] := hD
  refine W.widen (k := 93) (n := 708599) (by decide) (by decide) ?_
  refine va_putF (D := (dC, dI)) (ci := 12) (v := .ref q267) (ty := .array (.int)) (C := RX12) (T := TX12) (N := 172) hx hb hts inX12_init_c12 tyX12 tyX12_ok nmX12 hown hK hP hD hS 0 rfl rfl 142 (by decide) (hts (.fieldLink RX12 297 "DiskEvidenceModel" "askField" "[I") (List.mem_of_getElem? (i := 105) rfl)) (fun _ h9 => h9) rfl hin rfl (by decide +kernel) rfl rfl (by rw [hfl_266]; decide) dX12_init_1264 (fun H locs hP hD hS => ?_)
  have hP : va_P (dC, dI) vwCl [(h0, .inr (12, (fs_266.set 142 (.ref q267)))), (q1, .inl (cI, 4000, (.inl (fun _ => 0)))), (q3, .inl (cI, 6, (.inl (fun _ => 0)))), (q5, .inl (cI, 49152, (.inl (fun _ => 0)))), (q7, .inl (cZ, 768, (.inl (fun _ => 0)))), (q267, .inl (cI, 2048, (.inl (fun _ => 0))))] H := hP
  have hD : va_D A [(h0, .inr (12, (fs_266.set 142 (.ref q267)))), (q1, .inl (cI, 4000, (.inl (fun _ => 0)))), (q3, .inl (cI, 6, (.inl (fun _ => 0)))), (q5, .inl (cI, 49152, (.inl (fun _ => 0)))), (q7, .inl (cZ, 768, (.inl (fun _ => 0)))), (q267, .inl (cI, 2048, (.inl (fun _ => 0))))] := hD
  obtain ⟨fs_268, efs_268⟩ : ∃ y, y = (fs_266.set 142 (.ref q267)) := ⟨_, rfl⟩
  rw [← efs_268] at hP hD
  have hfl_268 : fs_268.length = 172 := by rw [efs_268, List.length_set]; exact hfl_266
  have hP := hP.sub (ws' := [(h0, .inr (12, fs_268)), (q1, .inl (cI, 4000, (.inl (fun _ => 0)))), (q3, .inl (cI, 6, (.inl (fun _ => 0)))), (q5, .inl (cI, 49152, (.inl (fun _ => 0)))), (q7, .inl (cZ, 768, (.inl (fun _ => 0))))]) [0, 1, 2, 3, 4] rfl
  have hD := hD.sub (ws' := [(h0, .inr (12, fs_268)), (q1, .inl (cI, 4000, (.inl (fun _ => 0)))), (q3, .inl (cI, 6, (.inl (fun _ => 0)))), (q5, .inl (cI, 49152, (.inl (fun _ => 0)))), (q7, .inl (cZ, 768, (.inl (fun _ => 0))))]) [0, 1, 2, 3, 4] (by decide) rfl
  refine lv_aload_n hx hb dX12_init_1267 rfl (lv_at hl 0 rfl) ?_
  refine lv_sipush (v := 2048) hx hb dX12_init_1268 (by decide) ?_
  refine nw_arr (atype := .int) (N' := 2048) (a0 := (2048, (.inl (fun _ => 0)))) hx hb (hts (.arrayClass .int) (List.mem_of_getElem? (i := 4) rfl)) rfl hK 0 (cI := cI) rfl hP hD hS hA (fun _ => rfl) (by decide) (by decide) (by decide) (Nat.le_of_ble_eq_true rfl) (Nat.le_of_ble_eq_true rfl) dX12_init_1271 (fun q269 H hP hD hS => ?_)
  have hP : va_P (dC, dI) vwCl [(h0, .inr (12, fs_268)), (q1, .inl (cI, 4000, (.inl (fun _ => 0)))), (q3, .inl (cI, 6, (.inl (fun _ => 0)))), (q5, .inl (cI, 49152, (.inl (fun _ => 0)))), (q7, .inl (cZ, 768, (.inl (fun _ => 0)))), (q269, .inl (cI, 2048, (.inl (fun _ => 0))))] H := hP
  have hD : va_D A [(h0, .inr (12, fs_268)), (q1, .inl (cI, 4000, (.inl (fun _ => 0)))), (q3, .inl (cI, 6, (.inl (fun _ => 0)))), (q5, .inl (cI, 49152, (.inl (fun _ => 0)))), (q7, .inl (cZ, 768, (.inl (fun _ => 0)))), (q269, .inl (cI, 2048, (.inl (fun _ => 0))))] := hD
  refine W.widen (k := 94) (n := 710647) (by decide) (by decide) ?_
  refine va_putF (D := (dC, dI)) (ci := 12) (v := .ref q269) (ty := .array (.int)) (C := RX12) (T := TX12) (N := 172) hx hb hts inX12_init_c12 tyX12 tyX12_ok nmX12 hown hK hP hD hS 0 rfl rfl 143 (by decide) (hts (.fieldLink RX12 300 "DiskEvidenceModel" "askHow" "[I") (List.mem_of_getElem? (i := 106) rfl)) (fun _ h9 => h9) rfl hin rfl (by decide +kernel) rfl rfl (by rw [hfl_268]; decide) dX12_init_1273 (fun H locs hP hD hS => ?_)
  have hP : va_P (dC, dI) vwCl [(h0, .inr (12, (fs_268.set 143 (.ref q269)))), (q1, .inl (cI, 4000, (.inl (fun _ => 0)))), (q3, .inl (cI, 6, (.inl (fun _ => 0)))), (q5, .inl (cI, 49152, (.inl (fun _ => 0)))), (q7, .inl (cZ, 768, (.inl (fun _ => 0)))), (q269, .inl (cI, 2048, (.inl (fun _ => 0))))] H := hP
  have hD : va_D A [(h0, .inr (12, (fs_268.set 143 (.ref q269)))), (q1, .inl (cI, 4000, (.inl (fun _ => 0)))), (q3, .inl (cI, 6, (.inl (fun _ => 0)))), (q5, .inl (cI, 49152, (.inl (fun _ => 0)))), (q7, .inl (cZ, 768, (.inl (fun _ => 0)))), (q269, .inl (cI, 2048, (.inl (fun _ => 0))))] := hD
  obtain ⟨fs_270, efs_270⟩ : ∃ y, y = (fs_268.set 143 (.ref q269)) := ⟨_, rfl⟩
  rw [← efs_270] at hP hD
  have hfl_270 : fs_270.length = 172 := by rw [efs_270, List.length_set]; exact hfl_268
  have hP := hP.sub (ws' := [(h0, .inr (12, fs_270)), (q1, .inl (cI, 4000, (.inl (fun _ => 0)))), (q3, .inl (cI, 6, (.inl (fun _ => 0)))), (q5, .inl (cI, 49152, (.inl (fun _ => 0)))), (q7, .inl (cZ, 768, (.inl (fun _ => 0))))]) [0, 1, 2, 3, 4] rfl
  have hD := hD.sub (ws' := [(h0, .inr (12, fs_270)), (q1, .inl (cI, 4000, (.inl (fun _ => 0)))), (q3, .inl (cI, 6, (.inl (fun _ => 0)))), (q5, .inl (cI, 49152, (.inl (fun _ => 0)))), (q7, .inl (cZ, 768, (.inl (fun _ => 0))))]) [0, 1, 2, 3, 4] (by decide) rfl
  refine lv_aload_n hx hb dX12_init_1276 rfl (lv_at hl 0 rfl) ?_
  refine lv_sipush (v := 2048) hx hb dX12_init_1277 (by decide) ?_
  refine nw_arr (atype := .int) (N' := 2048) (a0 := (2048, (.inl (fun _ => 0)))) hx hb (hts (.arrayClass .int) (List.mem_of_getElem? (i := 4) rfl)) rfl hK 0 (cI := cI) rfl hP hD hS hA (fun _ => rfl) (by decide) (by decide) (by decide) (Nat.le_of_ble_eq_true rfl) (Nat.le_of_ble_eq_true rfl) dX12_init_1280 (fun q271 H hP hD hS => ?_)
  have hP : va_P (dC, dI) vwCl [(h0, .inr (12, fs_270)), (q1, .inl (cI, 4000, (.inl (fun _ => 0)))), (q3, .inl (cI, 6, (.inl (fun _ => 0)))), (q5, .inl (cI, 49152, (.inl (fun _ => 0)))), (q7, .inl (cZ, 768, (.inl (fun _ => 0)))), (q271, .inl (cI, 2048, (.inl (fun _ => 0))))] H := hP
  have hD : va_D A [(h0, .inr (12, fs_270)), (q1, .inl (cI, 4000, (.inl (fun _ => 0)))), (q3, .inl (cI, 6, (.inl (fun _ => 0)))), (q5, .inl (cI, 49152, (.inl (fun _ => 0)))), (q7, .inl (cZ, 768, (.inl (fun _ => 0)))), (q271, .inl (cI, 2048, (.inl (fun _ => 0))))] := hD
  refine W.widen (k := 95) (n := 712695) (by decide) (by decide) ?_
  refine va_putF (D := (dC, dI)) (ci := 12) (v := .ref q271) (ty := .array (.int)) (C := RX12) (T := TX12) (N := 172) hx hb hts inX12_init_c12 tyX12 tyX12_ok nmX12 hown hK hP hD hS 0 rfl rfl 144 (by decide) (hts (.fieldLink RX12 303 "DiskEvidenceModel" "askFrom" "[I") (List.mem_of_getElem? (i := 107) rfl)) (fun _ h9 => h9) rfl hin rfl (by decide +kernel) rfl rfl (by rw [hfl_270]; decide) dX12_init_1282 (fun H locs hP hD hS => ?_)
  have hP : va_P (dC, dI) vwCl [(h0, .inr (12, (fs_270.set 144 (.ref q271)))), (q1, .inl (cI, 4000, (.inl (fun _ => 0)))), (q3, .inl (cI, 6, (.inl (fun _ => 0)))), (q5, .inl (cI, 49152, (.inl (fun _ => 0)))), (q7, .inl (cZ, 768, (.inl (fun _ => 0)))), (q271, .inl (cI, 2048, (.inl (fun _ => 0))))] H := hP
  have hD : va_D A [(h0, .inr (12, (fs_270.set 144 (.ref q271)))), (q1, .inl (cI, 4000, (.inl (fun _ => 0)))), (q3, .inl (cI, 6, (.inl (fun _ => 0)))), (q5, .inl (cI, 49152, (.inl (fun _ => 0)))), (q7, .inl (cZ, 768, (.inl (fun _ => 0)))), (q271, .inl (cI, 2048, (.inl (fun _ => 0))))] := hD
  obtain ⟨fs_272, efs_272⟩ : ∃ y, y = (fs_270.set 144 (.ref q271)) := ⟨_, rfl⟩
  rw [← efs_272] at hP hD
  have hfl_272 : fs_272.length = 172 := by rw [efs_272, List.length_set]; exact hfl_270
  have hP := hP.sub (ws' := [(h0, .inr (12, fs_272)), (q1, .inl (cI, 4000, (.inl (fun _ => 0)))), (q3, .inl (cI, 6, (.inl (fun _ => 0)))), (q5, .inl (cI, 49152, (.inl (fun _ => 0)))), (q7, .inl (cZ, 768, (.inl (fun _ => 0))))]) [0, 1, 2, 3, 4] rfl
  have hD := hD.sub (ws' := [(h0, .inr (12, fs_272)), (q1, .inl (cI, 4000, (.inl (fun _ => 0)))), (q3, .inl (cI, 6, (.inl (fun _ => 0)))), (q5, .inl (cI, 49152, (.inl (fun _ => 0)))), (q7, .inl (cZ, 768, (.inl (fun _ => 0))))]) [0, 1, 2, 3, 4] (by decide) rfl
  refine lv_aload_n hx hb dX12_init_1285 rfl (lv_at hl 0 rfl) ?_
  refine lv_sipush (v := 2048) hx hb dX12_init_1286 (by decide) ?_
  refine nw_arr (atype := .int) (N' := 2048) (a0 := (2048, (.inl (fun _ => 0)))) hx hb (hts (.arrayClass .int) (List.mem_of_getElem? (i := 4) rfl)) rfl hK 0 (cI := cI) rfl hP hD hS hA (fun _ => rfl) (by decide) (by decide) (by decide) (Nat.le_of_ble_eq_true rfl) (Nat.le_of_ble_eq_true rfl) dX12_init_1289 (fun q273 H hP hD hS => ?_)
  have hP : va_P (dC, dI) vwCl [(h0, .inr (12, fs_272)), (q1, .inl (cI, 4000, (.inl (fun _ => 0)))), (q3, .inl (cI, 6, (.inl (fun _ => 0)))), (q5, .inl (cI, 49152, (.inl (fun _ => 0)))), (q7, .inl (cZ, 768, (.inl (fun _ => 0)))), (q273, .inl (cI, 2048, (.inl (fun _ => 0))))] H := hP
  have hD : va_D A [(h0, .inr (12, fs_272)), (q1, .inl (cI, 4000, (.inl (fun _ => 0)))), (q3, .inl (cI, 6, (.inl (fun _ => 0)))), (q5, .inl (cI, 49152, (.inl (fun _ => 0)))), (q7, .inl (cZ, 768, (.inl (fun _ => 0)))), (q273, .inl (cI, 2048, (.inl (fun _ => 0))))] := hD
  refine W.widen (k := 96) (n := 714743) (by decide) (by decide) ?_
  refine va_putF (D := (dC, dI)) (ci := 12) (v := .ref q273) (ty := .array (.int)) (C := RX12) (T := TX12) (N := 172) hx hb hts inX12_init_c12 tyX12 tyX12_ok nmX12 hown hK hP hD hS 0 rfl rfl 145 (by decide) (hts (.fieldLink RX12 306 "DiskEvidenceModel" "askTo" "[I") (List.mem_of_getElem? (i := 108) rfl)) (fun _ h9 => h9) rfl hin rfl (by decide +kernel) rfl rfl (by rw [hfl_272]; decide) dX12_init_1291 (fun H locs hP hD hS => ?_)
  have hP : va_P (dC, dI) vwCl [(h0, .inr (12, (fs_272.set 145 (.ref q273)))), (q1, .inl (cI, 4000, (.inl (fun _ => 0)))), (q3, .inl (cI, 6, (.inl (fun _ => 0)))), (q5, .inl (cI, 49152, (.inl (fun _ => 0)))), (q7, .inl (cZ, 768, (.inl (fun _ => 0)))), (q273, .inl (cI, 2048, (.inl (fun _ => 0))))] H := hP
  have hD : va_D A [(h0, .inr (12, (fs_272.set 145 (.ref q273)))), (q1, .inl (cI, 4000, (.inl (fun _ => 0)))), (q3, .inl (cI, 6, (.inl (fun _ => 0)))), (q5, .inl (cI, 49152, (.inl (fun _ => 0)))), (q7, .inl (cZ, 768, (.inl (fun _ => 0)))), (q273, .inl (cI, 2048, (.inl (fun _ => 0))))] := hD
  obtain ⟨fs_274, efs_274⟩ : ∃ y, y = (fs_272.set 145 (.ref q273)) := ⟨_, rfl⟩
  rw [← efs_274] at hP hD
  have hfl_274 : fs_274.length = 172 := by rw [efs_274, List.length_set]; exact hfl_272
  have hP := hP.sub (ws' := [(h0, .inr (12, fs_274)), (q1, .inl (cI, 4000, (.inl (fun _ => 0)))), (q3, .inl (cI, 6, (.inl (fun _ => 0)))), (q5, .inl (cI, 49152, (.inl (fun _ => 0)))), (q7, .inl (cZ, 768, (.inl (fun _ => 0))))]) [0, 1, 2, 3, 4] rfl
  have hD := hD.sub (ws' := [(h0, .inr (12, fs_274)), (q1, .inl (cI, 4000, (.inl (fun _ => 0)))), (q3, .inl (cI, 6, (.inl (fun _ => 0)))), (q5, .inl (cI, 49152, (.inl (fun _ => 0)))), (q7, .inl (cZ, 768, (.inl (fun _ => 0))))]) [0, 1, 2, 3, 4] (by decide) rfl
  refine lv_aload_n hx hb dX12_init_1294 rfl (lv_at hl 0 rfl) ?_
  refine lv_sipush (v := 2048) hx hb dX12_init_1295 (by decide) ?_
  refine nw_arr (atype := .boolean) (N' := 2048) (a0 := (2048, (.inl (fun _ => 0)))) hx hb (hts (.arrayClass .boolean) (List.mem_of_getElem? (i := 9) rfl)) rfl hK 2 (cI := cZ) rfl hP hD hS hA (fun _ => rfl) (by decide) (by decide) (by decide) (Nat.le_of_ble_eq_true rfl) (Nat.le_of_ble_eq_true rfl) dX12_init_1298 (fun q275 H hP hD hS => ?_)
  have hP : va_P (dC, dI) vwCl [(h0, .inr (12, fs_274)), (q1, .inl (cI, 4000, (.inl (fun _ => 0)))), (q3, .inl (cI, 6, (.inl (fun _ => 0)))), (q5, .inl (cI, 49152, (.inl (fun _ => 0)))), (q7, .inl (cZ, 768, (.inl (fun _ => 0)))), (q275, .inl (cZ, 2048, (.inl (fun _ => 0))))] H := hP
  have hD : va_D A [(h0, .inr (12, fs_274)), (q1, .inl (cI, 4000, (.inl (fun _ => 0)))), (q3, .inl (cI, 6, (.inl (fun _ => 0)))), (q5, .inl (cI, 49152, (.inl (fun _ => 0)))), (q7, .inl (cZ, 768, (.inl (fun _ => 0)))), (q275, .inl (cZ, 2048, (.inl (fun _ => 0))))] := hD
  refine W.widen (k := 97) (n := 716791) (by decide) (by decide) ?_
  refine va_putF (D := (dC, dI)) (ci := 12) (v := .ref q275) (ty := .array (.boolean)) (C := RX12) (T := TX12) (N := 172) hx hb hts inX12_init_c12 tyX12 tyX12_ok nmX12 hown hK hP hD hS 0 rfl rfl 148 (by decide) (hts (.fieldLink RX12 309 "DiskEvidenceModel" "truths" "[Z") (List.mem_of_getElem? (i := 109) rfl)) (fun _ h9 => h9) rfl hin rfl (by decide +kernel) rfl rfl (by rw [hfl_274]; decide) dX12_init_1300 (fun H locs hP hD hS => ?_)
  have hP : va_P (dC, dI) vwCl [(h0, .inr (12, (fs_274.set 148 (.ref q275)))), (q1, .inl (cI, 4000, (.inl (fun _ => 0)))), (q3, .inl (cI, 6, (.inl (fun _ => 0)))), (q5, .inl (cI, 49152, (.inl (fun _ => 0)))), (q7, .inl (cZ, 768, (.inl (fun _ => 0)))), (q275, .inl (cZ, 2048, (.inl (fun _ => 0))))] H := hP
  have hD : va_D A [(h0, .inr (12, (fs_274.set 148 (.ref q275)))), (q1, .inl (cI, 4000, (.inl (fun _ => 0)))), (q3, .inl (cI, 6, (.inl (fun _ => 0)))), (q5, .inl (cI, 49152, (.inl (fun _ => 0)))), (q7, .inl (cZ, 768, (.inl (fun _ => 0)))), (q275, .inl (cZ, 2048, (.inl (fun _ => 0))))] := hD
  obtain ⟨fs_276, efs_276⟩ : ∃ y, y = (fs_274.set 148 (.ref q275)) := ⟨_, rfl⟩
  rw [← efs_276] at hP hD
  have hfl_276 : fs_276.length = 172 := by rw [efs_276, List.length_set]; exact hfl_274
  have hP := hP.sub (ws' := [(h0, .inr (12, fs_276)), (q1, .inl (cI, 4000, (.inl (fun _ => 0)))), (q3, .inl (cI, 6, (.inl (fun _ => 0)))), (q5, .inl (cI, 49152, (.inl (fun _ => 0)))), (q7, .inl (cZ, 768, (.inl (fun _ => 0))))]) [0, 1, 2, 3, 4] rfl
  have hD := hD.sub (ws' := [(h0, .inr (12, fs_276)), (q1, .inl (cI, 4000, (.inl (fun _ => 0)))), (q3, .inl (cI, 6, (.inl (fun _ => 0)))), (q5, .inl (cI, 49152, (.inl (fun _ => 0)))), (q7, .inl (cZ, 768, (.inl (fun _ => 0))))]) [0, 1, 2, 3, 4] (by decide) rfl
  refine lv_aload_n hx hb dX12_init_1303 rfl (lv_at hl 0 rfl) ?_
  refine lv_sipush (v := 150) hx hb dX12_init_1304 (by decide) ?_
  refine nw_arr (atype := .int) (N' := 150) (a0 := (150, (.inl (fun _ => 0)))) hx hb (hts (.arrayClass .int) (List.mem_of_getElem? (i := 4) rfl)) rfl hK 0 (cI := cI) rfl hP hD hS hA (fun _ => rfl) (by decide) (by decide) (by decide) (Nat.le_of_ble_eq_true rfl) (Nat.le_of_ble_eq_true rfl) dX12_init_1307 (fun q277 H hP hD hS => ?_)
  have hP : va_P (dC, dI) vwCl [(h0, .inr (12, fs_276)), (q1, .inl (cI, 4000, (.inl (fun _ => 0)))), (q3, .inl (cI, 6, (.inl (fun _ => 0)))), (q5, .inl (cI, 49152, (.inl (fun _ => 0)))), (q7, .inl (cZ, 768, (.inl (fun _ => 0)))), (q277, .inl (cI, 150, (.inl (fun _ => 0))))] H := hP
  have hD : va_D A [(h0, .inr (12, fs_276)), (q1, .inl (cI, 4000, (.inl (fun _ => 0)))), (q3, .inl (cI, 6, (.inl (fun _ => 0)))), (q5, .inl (cI, 49152, (.inl (fun _ => 0)))), (q7, .inl (cZ, 768, (.inl (fun _ => 0)))), (q277, .inl (cI, 150, (.inl (fun _ => 0))))] := hD
  refine W.widen (k := 98) (n := 716941) (by decide) (by decide) ?_
  refine va_putF (D := (dC, dI)) (ci := 12) (v := .ref q277) (ty := .array (.int)) (C := RX12) (T := TX12) (N := 172) hx hb hts inX12_init_c12 tyX12 tyX12_ok nmX12 hown hK hP hD hS 0 rfl rfl 150 (by decide) (hts (.fieldLink RX12 312 "DiskEvidenceModel" "result" "[I") (List.mem_of_getElem? (i := 110) rfl)) (fun _ h9 => h9) rfl hin rfl (by decide +kernel) rfl rfl (by rw [hfl_276]; decide) dX12_init_1309 (fun H locs hP hD hS => ?_)
  have hP : va_P (dC, dI) vwCl [(h0, .inr (12, (fs_276.set 150 (.ref q277)))), (q1, .inl (cI, 4000, (.inl (fun _ => 0)))), (q3, .inl (cI, 6, (.inl (fun _ => 0)))), (q5, .inl (cI, 49152, (.inl (fun _ => 0)))), (q7, .inl (cZ, 768, (.inl (fun _ => 0)))), (q277, .inl (cI, 150, (.inl (fun _ => 0))))] H := hP
  have hD : va_D A [(h0, .inr (12, (fs_276.set 150 (.ref q277)))), (q1, .inl (cI, 4000, (.inl (fun _ => 0)))), (q3, .inl (cI, 6, (.inl (fun _ => 0)))), (q5, .inl (cI, 49152, (.inl (fun _ => 0)))), (q7, .inl (cZ, 768, (.inl (fun _ => 0)))), (q277, .inl (cI, 150, (.inl (fun _ => 0))))] := hD
  obtain ⟨fs_278, efs_278⟩ : ∃ y, y = (fs_276.set 150 (.ref q277)) := ⟨_, rfl⟩
  rw [← efs_278] at hP hD
  have hfl_278 : fs_278.length = 172 := by rw [efs_278, List.length_set]; exact hfl_276
  have hP := hP.sub (ws' := [(h0, .inr (12, fs_278)), (q1, .inl (cI, 4000, (.inl (fun _ => 0)))), (q3, .inl (cI, 6, (.inl (fun _ => 0)))), (q5, .inl (cI, 49152, (.inl (fun _ => 0)))), (q7, .inl (cZ, 768, (.inl (fun _ => 0))))]) [0, 1, 2, 3, 4] rfl
  have hD := hD.sub (ws' := [(h0, .inr (12, fs_278)), (q1, .inl (cI, 4000, (.inl (fun _ => 0)))), (q3, .inl (cI, 6, (.inl (fun _ => 0)))), (q5, .inl (cI, 49152, (.inl (fun _ => 0)))), (q7, .inl (cZ, 768, (.inl (fun _ => 0))))]) [0, 1, 2, 3, 4] (by decide) rfl
  refine lv_aload_n hx hb dX12_init_1312 rfl (lv_at hl 0 rfl) ?_
  refine lv_sipush (v := 4000) hx hb dX12_init_1313 (by decide) ?_
  refine nw_arr (atype := .long) (N' := 4000) (a0 := (4000, (.inr (.inl (fun _ => 0))))) hx hb (hts (.arrayClass .long) (List.mem_of_getElem? (i := 57) rfl)) rfl hK 3 (cI := cJ) rfl hP hD hS hA (fun _ => rfl) (by decide) (by decide) (by decide) (Nat.le_of_ble_eq_true rfl) (Nat.le_of_ble_eq_true rfl) dX12_init_1316 (fun q279 H hP hD hS => ?_)
  have hP : va_P (dC, dI) vwCl [(h0, .inr (12, fs_278)), (q1, .inl (cI, 4000, (.inl (fun _ => 0)))), (q3, .inl (cI, 6, (.inl (fun _ => 0)))), (q5, .inl (cI, 49152, (.inl (fun _ => 0)))), (q7, .inl (cZ, 768, (.inl (fun _ => 0)))), (q279, .inl (cJ, 4000, (.inr (.inl (fun _ => 0)))))] H := hP
  have hD : va_D A [(h0, .inr (12, fs_278)), (q1, .inl (cI, 4000, (.inl (fun _ => 0)))), (q3, .inl (cI, 6, (.inl (fun _ => 0)))), (q5, .inl (cI, 49152, (.inl (fun _ => 0)))), (q7, .inl (cZ, 768, (.inl (fun _ => 0)))), (q279, .inl (cJ, 4000, (.inr (.inl (fun _ => 0)))))] := hD
  refine W.widen (k := 99) (n := 720941) (by decide) (by decide) ?_
  refine va_putF (D := (dC, dI)) (ci := 12) (v := .ref q279) (ty := .array (.long)) (C := RX12) (T := TX12) (N := 172) hx hb hts inX12_init_c12 tyX12 tyX12_ok nmX12 hown hK hP hD hS 0 rfl rfl 152 (by decide) (hts (.fieldLink RX12 315 "DiskEvidenceModel" "momentAt" "[J") (List.mem_of_getElem? (i := 111) rfl)) (fun _ h9 => h9) rfl hin rfl (by decide +kernel) rfl rfl (by rw [hfl_278]; decide) dX12_init_1318 (fun H locs hP hD hS => ?_)
  have hP : va_P (dC, dI) vwCl [(h0, .inr (12, (fs_278.set 152 (.ref q279)))), (q1, .inl (cI, 4000, (.inl (fun _ => 0)))), (q3, .inl (cI, 6, (.inl (fun _ => 0)))), (q5, .inl (cI, 49152, (.inl (fun _ => 0)))), (q7, .inl (cZ, 768, (.inl (fun _ => 0)))), (q279, .inl (cJ, 4000, (.inr (.inl (fun _ => 0)))))] H := hP
  have hD : va_D A [(h0, .inr (12, (fs_278.set 152 (.ref q279)))), (q1, .inl (cI, 4000, (.inl (fun _ => 0)))), (q3, .inl (cI, 6, (.inl (fun _ => 0)))), (q5, .inl (cI, 49152, (.inl (fun _ => 0)))), (q7, .inl (cZ, 768, (.inl (fun _ => 0)))), (q279, .inl (cJ, 4000, (.inr (.inl (fun _ => 0)))))] := hD
  obtain ⟨fs_280, efs_280⟩ : ∃ y, y = (fs_278.set 152 (.ref q279)) := ⟨_, rfl⟩
  rw [← efs_280] at hP hD
  have hfl_280 : fs_280.length = 172 := by rw [efs_280, List.length_set]; exact hfl_278
  have hP := hP.sub (ws' := [(h0, .inr (12, fs_280)), (q1, .inl (cI, 4000, (.inl (fun _ => 0)))), (q3, .inl (cI, 6, (.inl (fun _ => 0)))), (q5, .inl (cI, 49152, (.inl (fun _ => 0)))), (q7, .inl (cZ, 768, (.inl (fun _ => 0))))]) [0, 1, 2, 3, 4] rfl
  have hD := hD.sub (ws' := [(h0, .inr (12, fs_280)), (q1, .inl (cI, 4000, (.inl (fun _ => 0)))), (q3, .inl (cI, 6, (.inl (fun _ => 0)))), (q5, .inl (cI, 49152, (.inl (fun _ => 0)))), (q7, .inl (cZ, 768, (.inl (fun _ => 0))))]) [0, 1, 2, 3, 4] (by decide) rfl
  refine lv_aload_n hx hb dX12_init_1321 rfl (lv_at hl 0 rfl) ?_
  refine lv_sipush (v := 4000) hx hb dX12_init_1322 (by decide) ?_
  refine nw_arr (atype := .int) (N' := 4000) (a0 := (4000, (.inl (fun _ => 0)))) hx hb (hts (.arrayClass .int) (List.mem_of_getElem? (i := 4) rfl)) rfl hK 0 (cI := cI) rfl hP hD hS hA (fun _ => rfl) (by decide) (by decide) (by decide) (Nat.le_of_ble_eq_true rfl) (Nat.le_of_ble_eq_true rfl) dX12_init_1325 (fun q281 H hP hD hS => ?_)
  have hP : va_P (dC, dI) vwCl [(h0, .inr (12, fs_280)), (q1, .inl (cI, 4000, (.inl (fun _ => 0)))), (q3, .inl (cI, 6, (.inl (fun _ => 0)))), (q5, .inl (cI, 49152, (.inl (fun _ => 0)))), (q7, .inl (cZ, 768, (.inl (fun _ => 0)))), (q281, .inl (cI, 4000, (.inl (fun _ => 0))))] H := hP
  have hD : va_D A [(h0, .inr (12, fs_280)), (q1, .inl (cI, 4000, (.inl (fun _ => 0)))), (q3, .inl (cI, 6, (.inl (fun _ => 0)))), (q5, .inl (cI, 49152, (.inl (fun _ => 0)))), (q7, .inl (cZ, 768, (.inl (fun _ => 0)))), (q281, .inl (cI, 4000, (.inl (fun _ => 0))))] := hD
  refine W.widen (k := 100) (n := 724941) (by decide) (by decide) ?_
  refine va_putF (D := (dC, dI)) (ci := 12) (v := .ref q281) (ty := .array (.int)) (C := RX12) (T := TX12) (N := 172) hx hb hts inX12_init_c12 tyX12 tyX12_ok nmX12 hown hK hP hD hS 0 rfl rfl 153 (by decide) (hts (.fieldLink RX12 318 "DiskEvidenceModel" "momentGrain" "[I") (List.mem_of_getElem? (i := 112) rfl)) (fun _ h9 => h9) rfl hin rfl (by decide +kernel) rfl rfl (by rw [hfl_280]; decide) dX12_init_1327 (fun H locs hP hD hS => ?_)
  have hP : va_P (dC, dI) vwCl [(h0, .inr (12, (fs_280.set 153 (.ref q281)))), (q1, .inl (cI, 4000, (.inl (fun _ => 0)))), (q3, .inl (cI, 6, (.inl (fun _ => 0)))), (q5, .inl (cI, 49152, (.inl (fun _ => 0)))), (q7, .inl (cZ, 768, (.inl (fun _ => 0)))), (q281, .inl (cI, 4000, (.inl (fun _ => 0))))] H := hP
  have hD : va_D A [(h0, .inr (12, (fs_280.set 153 (.ref q281)))), (q1, .inl (cI, 4000, (.inl (fun _ => 0)))), (q3, .inl (cI, 6, (.inl (fun _ => 0)))), (q5, .inl (cI, 49152, (.inl (fun _ => 0)))), (q7, .inl (cZ, 768, (.inl (fun _ => 0)))), (q281, .inl (cI, 4000, (.inl (fun _ => 0))))] := hD
  obtain ⟨fs_282, efs_282⟩ : ∃ y, y = (fs_280.set 153 (.ref q281)) := ⟨_, rfl⟩
  rw [← efs_282] at hP hD
  have hfl_282 : fs_282.length = 172 := by rw [efs_282, List.length_set]; exact hfl_280
  have hP := hP.sub (ws' := [(h0, .inr (12, fs_282)), (q1, .inl (cI, 4000, (.inl (fun _ => 0)))), (q3, .inl (cI, 6, (.inl (fun _ => 0)))), (q5, .inl (cI, 49152, (.inl (fun _ => 0)))), (q7, .inl (cZ, 768, (.inl (fun _ => 0))))]) [0, 1, 2, 3, 4] rfl
  have hD := hD.sub (ws' := [(h0, .inr (12, fs_282)), (q1, .inl (cI, 4000, (.inl (fun _ => 0)))), (q3, .inl (cI, 6, (.inl (fun _ => 0)))), (q5, .inl (cI, 49152, (.inl (fun _ => 0)))), (q7, .inl (cZ, 768, (.inl (fun _ => 0))))]) [0, 1, 2, 3, 4] (by decide) rfl
  refine lv_aload_n hx hb dX12_init_1330 rfl (lv_at hl 0 rfl) ?_
  refine lv_sipush (v := 4000) hx hb dX12_init_1331 (by decide) ?_
  refine nw_arr (atype := .int) (N' := 4000) (a0 := (4000, (.inl (fun _ => 0)))) hx hb (hts (.arrayClass .int) (List.mem_of_getElem? (i := 4) rfl)) rfl hK 0 (cI := cI) rfl hP hD hS hA (fun _ => rfl) (by decide) (by decide) (by decide) (Nat.le_of_ble_eq_true rfl) (Nat.le_of_ble_eq_true rfl) dX12_init_1334 (fun q283 H hP hD hS => ?_)
  have hP : va_P (dC, dI) vwCl [(h0, .inr (12, fs_282)), (q1, .inl (cI, 4000, (.inl (fun _ => 0)))), (q3, .inl (cI, 6, (.inl (fun _ => 0)))), (q5, .inl (cI, 49152, (.inl (fun _ => 0)))), (q7, .inl (cZ, 768, (.inl (fun _ => 0)))), (q283, .inl (cI, 4000, (.inl (fun _ => 0))))] H := hP
  have hD : va_D A [(h0, .inr (12, fs_282)), (q1, .inl (cI, 4000, (.inl (fun _ => 0)))), (q3, .inl (cI, 6, (.inl (fun _ => 0)))), (q5, .inl (cI, 49152, (.inl (fun _ => 0)))), (q7, .inl (cZ, 768, (.inl (fun _ => 0)))), (q283, .inl (cI, 4000, (.inl (fun _ => 0))))] := hD
  refine W.widen (k := 101) (n := 728941) (by decide) (by decide) ?_
  refine va_putF (D := (dC, dI)) (ci := 12) (v := .ref q283) (ty := .array (.int)) (C := RX12) (T := TX12) (N := 172) hx hb hts inX12_init_c12 tyX12 tyX12_ok nmX12 hown hK hP hD hS 0 rfl rfl 154 (by decide) (hts (.fieldLink RX12 321 "DiskEvidenceModel" "momentTree" "[I") (List.mem_of_getElem? (i := 113) rfl)) (fun _ h9 => h9) rfl hin rfl (by decide +kernel) rfl rfl (by rw [hfl_282]; decide) dX12_init_1336 (fun H locs hP hD hS => ?_)
  have hP : va_P (dC, dI) vwCl [(h0, .inr (12, (fs_282.set 154 (.ref q283)))), (q1, .inl (cI, 4000, (.inl (fun _ => 0)))), (q3, .inl (cI, 6, (.inl (fun _ => 0)))), (q5, .inl (cI, 49152, (.inl (fun _ => 0)))), (q7, .inl (cZ, 768, (.inl (fun _ => 0)))), (q283, .inl (cI, 4000, (.inl (fun _ => 0))))] H := hP
  have hD : va_D A [(h0, .inr (12, (fs_282.set 154 (.ref q283)))), (q1, .inl (cI, 4000, (.inl (fun _ => 0)))), (q3, .inl (cI, 6, (.inl (fun _ => 0)))), (q5, .inl (cI, 49152, (.inl (fun _ => 0)))), (q7, .inl (cZ, 768, (.inl (fun _ => 0)))), (q283, .inl (cI, 4000, (.inl (fun _ => 0))))] := hD
  obtain ⟨fs_284, efs_284⟩ : ∃ y, y = (fs_282.set 154 (.ref q283)) := ⟨_, rfl⟩
  rw [← efs_284] at hP hD
  have hfl_284 : fs_284.length = 172 := by rw [efs_284, List.length_set]; exact hfl_282
  have hP := hP.sub (ws' := [(h0, .inr (12, fs_284)), (q1, .inl (cI, 4000, (.inl (fun _ => 0)))), (q3, .inl (cI, 6, (.inl (fun _ => 0)))), (q5, .inl (cI, 49152, (.inl (fun _ => 0)))), (q7, .inl (cZ, 768, (.inl (fun _ => 0))))]) [0, 1, 2, 3, 4] rfl
  have hD := hD.sub (ws' := [(h0, .inr (12, fs_284)), (q1, .inl (cI, 4000, (.inl (fun _ => 0)))), (q3, .inl (cI, 6, (.inl (fun _ => 0)))), (q5, .inl (cI, 49152, (.inl (fun _ => 0)))), (q7, .inl (cZ, 768, (.inl (fun _ => 0))))]) [0, 1, 2, 3, 4] (by decide) rfl
  refine lv_aload_n hx hb dX12_init_1339 rfl (lv_at hl 0 rfl) ?_
  refine lv_sipush (v := 4000) hx hb dX12_init_1340 (by decide) ?_
  refine nw_arr (atype := .int) (N' := 4000) (a0 := (4000, (.inl (fun _ => 0)))) hx hb (hts (.arrayClass .int) (List.mem_of_getElem? (i := 4) rfl)) rfl hK 0 (cI := cI) rfl hP hD hS hA (fun _ => rfl) (by decide) (by decide) (by decide) (Nat.le_of_ble_eq_true rfl) (Nat.le_of_ble_eq_true rfl) dX12_init_1343 (fun q285 H hP hD hS => ?_)
  have hP : va_P (dC, dI) vwCl [(h0, .inr (12, fs_284)), (q1, .inl (cI, 4000, (.inl (fun _ => 0)))), (q3, .inl (cI, 6, (.inl (fun _ => 0)))), (q5, .inl (cI, 49152, (.inl (fun _ => 0)))), (q7, .inl (cZ, 768, (.inl (fun _ => 0)))), (q285, .inl (cI, 4000, (.inl (fun _ => 0))))] H := hP
  have hD : va_D A [(h0, .inr (12, fs_284)), (q1, .inl (cI, 4000, (.inl (fun _ => 0)))), (q3, .inl (cI, 6, (.inl (fun _ => 0)))), (q5, .inl (cI, 49152, (.inl (fun _ => 0)))), (q7, .inl (cZ, 768, (.inl (fun _ => 0)))), (q285, .inl (cI, 4000, (.inl (fun _ => 0))))] := hD
  refine W.widen (k := 102) (n := 732941) (by decide) (by decide) ?_
  refine va_putF (D := (dC, dI)) (ci := 12) (v := .ref q285) (ty := .array (.int)) (C := RX12) (T := TX12) (N := 172) hx hb hts inX12_init_c12 tyX12 tyX12_ok nmX12 hown hK hP hD hS 0 rfl rfl 155 (by decide) (hts (.fieldLink RX12 324 "DiskEvidenceModel" "momentFile" "[I") (List.mem_of_getElem? (i := 114) rfl)) (fun _ h9 => h9) rfl hin rfl (by decide +kernel) rfl rfl (by rw [hfl_284]; decide) dX12_init_1345 (fun H locs hP hD hS => ?_)
  have hP : va_P (dC, dI) vwCl [(h0, .inr (12, (fs_284.set 155 (.ref q285)))), (q1, .inl (cI, 4000, (.inl (fun _ => 0)))), (q3, .inl (cI, 6, (.inl (fun _ => 0)))), (q5, .inl (cI, 49152, (.inl (fun _ => 0)))), (q7, .inl (cZ, 768, (.inl (fun _ => 0)))), (q285, .inl (cI, 4000, (.inl (fun _ => 0))))] H := hP
  have hD : va_D A [(h0, .inr (12, (fs_284.set 155 (.ref q285)))), (q1, .inl (cI, 4000, (.inl (fun _ => 0)))), (q3, .inl (cI, 6, (.inl (fun _ => 0)))), (q5, .inl (cI, 49152, (.inl (fun _ => 0)))), (q7, .inl (cZ, 768, (.inl (fun _ => 0)))), (q285, .inl (cI, 4000, (.inl (fun _ => 0))))] := hD
  obtain ⟨fs_286, efs_286⟩ : ∃ y, y = (fs_284.set 155 (.ref q285)) := ⟨_, rfl⟩
  rw [← efs_286] at hP hD
  have hfl_286 : fs_286.length = 172 := by rw [efs_286, List.length_set]; exact hfl_284
  have hP := hP.sub (ws' := [(h0, .inr (12, fs_286)), (q1, .inl (cI, 4000, (.inl (fun _ => 0)))), (q3, .inl (cI, 6, (.inl (fun _ => 0)))), (q5, .inl (cI, 49152, (.inl (fun _ => 0)))), (q7, .inl (cZ, 768, (.inl (fun _ => 0))))]) [0, 1, 2, 3, 4] rfl
  have hD := hD.sub (ws' := [(h0, .inr (12, fs_286)), (q1, .inl (cI, 4000, (.inl (fun _ => 0)))), (q3, .inl (cI, 6, (.inl (fun _ => 0)))), (q5, .inl (cI, 49152, (.inl (fun _ => 0)))), (q7, .inl (cZ, 768, (.inl (fun _ => 0))))]) [0, 1, 2, 3, 4] (by decide) rfl
  refine lv_aload_n hx hb dX12_init_1348 rfl (lv_at hl 0 rfl) ?_
  refine lv_sipush (v := 4000) hx hb dX12_init_1349 (by decide) ?_
  refine nw_arr (atype := .int) (N' := 4000) (a0 := (4000, (.inl (fun _ => 0)))) hx hb (hts (.arrayClass .int) (List.mem_of_getElem? (i := 4) rfl)) rfl hK 0 (cI := cI) rfl hP hD hS hA (fun _ => rfl) (by decide) (by decide) (by decide) (Nat.le_of_ble_eq_true rfl) (Nat.le_of_ble_eq_true rfl) dX12_init_1352 (fun q287 H hP hD hS => ?_)
  have hP : va_P (dC, dI) vwCl [(h0, .inr (12, fs_286)), (q1, .inl (cI, 4000, (.inl (fun _ => 0)))), (q3, .inl (cI, 6, (.inl (fun _ => 0)))), (q5, .inl (cI, 49152, (.inl (fun _ => 0)))), (q7, .inl (cZ, 768, (.inl (fun _ => 0)))), (q287, .inl (cI, 4000, (.inl (fun _ => 0))))] H := hP
  have hD : va_D A [(h0, .inr (12, fs_286)), (q1, .inl (cI, 4000, (.inl (fun _ => 0)))), (q3, .inl (cI, 6, (.inl (fun _ => 0)))), (q5, .inl (cI, 49152, (.inl (fun _ => 0)))), (q7, .inl (cZ, 768, (.inl (fun _ => 0)))), (q287, .inl (cI, 4000, (.inl (fun _ => 0))))] := hD
  refine W.widen (k := 103) (n := 736941) (by decide) (by decide) ?_
  refine va_putF (D := (dC, dI)) (ci := 12) (v := .ref q287) (ty := .array (.int)) (C := RX12) (T := TX12) (N := 172) hx hb hts inX12_init_c12 tyX12 tyX12_ok nmX12 hown hK hP hD hS 0 rfl rfl 156 (by decide) (hts (.fieldLink RX12 327 "DiskEvidenceModel" "momentWhich" "[I") (List.mem_of_getElem? (i := 115) rfl)) (fun _ h9 => h9) rfl hin rfl (by decide +kernel) rfl rfl (by rw [hfl_286]; decide) dX12_init_1354 (fun H locs hP hD hS => ?_)
  have hP : va_P (dC, dI) vwCl [(h0, .inr (12, (fs_286.set 156 (.ref q287)))), (q1, .inl (cI, 4000, (.inl (fun _ => 0)))), (q3, .inl (cI, 6, (.inl (fun _ => 0)))), (q5, .inl (cI, 49152, (.inl (fun _ => 0)))), (q7, .inl (cZ, 768, (.inl (fun _ => 0)))), (q287, .inl (cI, 4000, (.inl (fun _ => 0))))] H := hP
  have hD : va_D A [(h0, .inr (12, (fs_286.set 156 (.ref q287)))), (q1, .inl (cI, 4000, (.inl (fun _ => 0)))), (q3, .inl (cI, 6, (.inl (fun _ => 0)))), (q5, .inl (cI, 49152, (.inl (fun _ => 0)))), (q7, .inl (cZ, 768, (.inl (fun _ => 0)))), (q287, .inl (cI, 4000, (.inl (fun _ => 0))))] := hD
  obtain ⟨fs_288, efs_288⟩ : ∃ y, y = (fs_286.set 156 (.ref q287)) := ⟨_, rfl⟩
  rw [← efs_288] at hP hD
  have hfl_288 : fs_288.length = 172 := by rw [efs_288, List.length_set]; exact hfl_286
  have hP := hP.sub (ws' := [(h0, .inr (12, fs_288)), (q1, .inl (cI, 4000, (.inl (fun _ => 0)))), (q3, .inl (cI, 6, (.inl (fun _ => 0)))), (q5, .inl (cI, 49152, (.inl (fun _ => 0)))), (q7, .inl (cZ, 768, (.inl (fun _ => 0))))]) [0, 1, 2, 3, 4] rfl
  have hD := hD.sub (ws' := [(h0, .inr (12, fs_288)), (q1, .inl (cI, 4000, (.inl (fun _ => 0)))), (q3, .inl (cI, 6, (.inl (fun _ => 0)))), (q5, .inl (cI, 49152, (.inl (fun _ => 0)))), (q7, .inl (cZ, 768, (.inl (fun _ => 0))))]) [0, 1, 2, 3, 4] (by decide) rfl
  refine lv_aload_n hx hb dX12_init_1357 rfl (lv_at hl 0 rfl) ?_
  refine lv_sipush (v := 2700) hx hb dX12_init_1358 (by decide) ?_
  refine nw_arr (atype := .int) (N' := 2700) (a0 := (2700, (.inl (fun _ => 0)))) hx hb (hts (.arrayClass .int) (List.mem_of_getElem? (i := 4) rfl)) rfl hK 0 (cI := cI) rfl hP hD hS hA (fun _ => rfl) (by decide) (by decide) (by decide) (Nat.le_of_ble_eq_true rfl) (Nat.le_of_ble_eq_true rfl) dX12_init_1361 (fun q289 H hP hD hS => ?_)
  have hP : va_P (dC, dI) vwCl [(h0, .inr (12, fs_288)), (q1, .inl (cI, 4000, (.inl (fun _ => 0)))), (q3, .inl (cI, 6, (.inl (fun _ => 0)))), (q5, .inl (cI, 49152, (.inl (fun _ => 0)))), (q7, .inl (cZ, 768, (.inl (fun _ => 0)))), (q289, .inl (cI, 2700, (.inl (fun _ => 0))))] H := hP
  have hD : va_D A [(h0, .inr (12, fs_288)), (q1, .inl (cI, 4000, (.inl (fun _ => 0)))), (q3, .inl (cI, 6, (.inl (fun _ => 0)))), (q5, .inl (cI, 49152, (.inl (fun _ => 0)))), (q7, .inl (cZ, 768, (.inl (fun _ => 0)))), (q289, .inl (cI, 2700, (.inl (fun _ => 0))))] := hD
  refine W.widen (k := 104) (n := 739641) (by decide) (by decide) ?_
  refine va_putF (D := (dC, dI)) (ci := 12) (v := .ref q289) (ty := .array (.int)) (C := RX12) (T := TX12) (N := 172) hx hb hts inX12_init_c12 tyX12 tyX12_ok nmX12 hown hK hP hD hS 0 rfl rfl 158 (by decide) (hts (.fieldLink RX12 330 "DiskEvidenceModel" "doubtTree" "[I") (List.mem_of_getElem? (i := 116) rfl)) (fun _ h9 => h9) rfl hin rfl (by decide +kernel) rfl rfl (by rw [hfl_288]; decide) dX12_init_1363 (fun H locs hP hD hS => ?_)
  have hP : va_P (dC, dI) vwCl [(h0, .inr (12, (fs_288.set 158 (.ref q289)))), (q1, .inl (cI, 4000, (.inl (fun _ => 0)))), (q3, .inl (cI, 6, (.inl (fun _ => 0)))), (q5, .inl (cI, 49152, (.inl (fun _ => 0)))), (q7, .inl (cZ, 768, (.inl (fun _ => 0)))), (q289, .inl (cI, 2700, (.inl (fun _ => 0))))] H := hP
  have hD : va_D A [(h0, .inr (12, (fs_288.set 158 (.ref q289)))), (q1, .inl (cI, 4000, (.inl (fun _ => 0)))), (q3, .inl (cI, 6, (.inl (fun _ => 0)))), (q5, .inl (cI, 49152, (.inl (fun _ => 0)))), (q7, .inl (cZ, 768, (.inl (fun _ => 0)))), (q289, .inl (cI, 2700, (.inl (fun _ => 0))))] := hD
  obtain ⟨fs_290, efs_290⟩ : ∃ y, y = (fs_288.set 158 (.ref q289)) := ⟨_, rfl⟩
  rw [← efs_290] at hP hD
  have hfl_290 : fs_290.length = 172 := by rw [efs_290, List.length_set]; exact hfl_288
  have hP := hP.sub (ws' := [(h0, .inr (12, fs_290)), (q1, .inl (cI, 4000, (.inl (fun _ => 0)))), (q3, .inl (cI, 6, (.inl (fun _ => 0)))), (q5, .inl (cI, 49152, (.inl (fun _ => 0)))), (q7, .inl (cZ, 768, (.inl (fun _ => 0))))]) [0, 1, 2, 3, 4] rfl
  have hD := hD.sub (ws' := [(h0, .inr (12, fs_290)), (q1, .inl (cI, 4000, (.inl (fun _ => 0)))), (q3, .inl (cI, 6, (.inl (fun _ => 0)))), (q5, .inl (cI, 49152, (.inl (fun _ => 0)))), (q7, .inl (cZ, 768, (.inl (fun _ => 0))))]) [0, 1, 2, 3, 4] (by decide) rfl
  refine lv_aload_n hx hb dX12_init_1366 rfl (lv_at hl 0 rfl) ?_
  refine lv_sipush (v := 2700) hx hb dX12_init_1367 (by decide) ?_
  refine nw_arr (atype := .int) (N' := 2700) (a0 := (2700, (.inl (fun _ => 0)))) hx hb (hts (.arrayClass .int) (List.mem_of_getElem? (i := 4) rfl)) rfl hK 0 (cI := cI) rfl hP hD hS hA (fun _ => rfl) (by decide) (by decide) (by decide) (Nat.le_of_ble_eq_true rfl) (Nat.le_of_ble_eq_true rfl) dX12_init_1370 (fun q291 H hP hD hS => ?_)
  have hP : va_P (dC, dI) vwCl [(h0, .inr (12, fs_290)), (q1, .inl (cI, 4000, (.inl (fun _ => 0)))), (q3, .inl (cI, 6, (.inl (fun _ => 0)))), (q5, .inl (cI, 49152, (.inl (fun _ => 0)))), (q7, .inl (cZ, 768, (.inl (fun _ => 0)))), (q291, .inl (cI, 2700, (.inl (fun _ => 0))))] H := hP
  have hD : va_D A [(h0, .inr (12, fs_290)), (q1, .inl (cI, 4000, (.inl (fun _ => 0)))), (q3, .inl (cI, 6, (.inl (fun _ => 0)))), (q5, .inl (cI, 49152, (.inl (fun _ => 0)))), (q7, .inl (cZ, 768, (.inl (fun _ => 0)))), (q291, .inl (cI, 2700, (.inl (fun _ => 0))))] := hD
  refine W.widen (k := 105) (n := 742341) (by decide) (by decide) ?_
  refine va_putF (D := (dC, dI)) (ci := 12) (v := .ref q291) (ty := .array (.int)) (C := RX12) (T := TX12) (N := 172) hx hb hts inX12_init_c12 tyX12 tyX12_ok nmX12 hown hK hP hD hS 0 rfl rfl 159 (by decide) (hts (.fieldLink RX12 333 "DiskEvidenceModel" "doubtFile" "[I") (List.mem_of_getElem? (i := 117) rfl)) (fun _ h9 => h9) rfl hin rfl (by decide +kernel) rfl rfl (by rw [hfl_290]; decide) dX12_init_1372 (fun H locs hP hD hS => ?_)
  have hP : va_P (dC, dI) vwCl [(h0, .inr (12, (fs_290.set 159 (.ref q291)))), (q1, .inl (cI, 4000, (.inl (fun _ => 0)))), (q3, .inl (cI, 6, (.inl (fun _ => 0)))), (q5, .inl (cI, 49152, (.inl (fun _ => 0)))), (q7, .inl (cZ, 768, (.inl (fun _ => 0)))), (q291, .inl (cI, 2700, (.inl (fun _ => 0))))] H := hP
  have hD : va_D A [(h0, .inr (12, (fs_290.set 159 (.ref q291)))), (q1, .inl (cI, 4000, (.inl (fun _ => 0)))), (q3, .inl (cI, 6, (.inl (fun _ => 0)))), (q5, .inl (cI, 49152, (.inl (fun _ => 0)))), (q7, .inl (cZ, 768, (.inl (fun _ => 0)))), (q291, .inl (cI, 2700, (.inl (fun _ => 0))))] := hD
  obtain ⟨fs_292, efs_292⟩ : ∃ y, y = (fs_290.set 159 (.ref q291)) := ⟨_, rfl⟩
  rw [← efs_292] at hP hD
  have hfl_292 : fs_292.length = 172 := by rw [efs_292, List.length_set]; exact hfl_290
  have hP := hP.sub (ws' := [(h0, .inr (12, fs_292)), (q1, .inl (cI, 4000, (.inl (fun _ => 0)))), (q3, .inl (cI, 6, (.inl (fun _ => 0)))), (q5, .inl (cI, 49152, (.inl (fun _ => 0)))), (q7, .inl (cZ, 768, (.inl (fun _ => 0))))]) [0, 1, 2, 3, 4] rfl
  have hD := hD.sub (ws' := [(h0, .inr (12, fs_292)), (q1, .inl (cI, 4000, (.inl (fun _ => 0)))), (q3, .inl (cI, 6, (.inl (fun _ => 0)))), (q5, .inl (cI, 49152, (.inl (fun _ => 0)))), (q7, .inl (cZ, 768, (.inl (fun _ => 0))))]) [0, 1, 2, 3, 4] (by decide) rfl
  refine lv_aload_n hx hb dX12_init_1375 rfl (lv_at hl 0 rfl) ?_
  refine lv_sipush (v := 2700) hx hb dX12_init_1376 (by decide) ?_
  refine nw_arr (atype := .int) (N' := 2700) (a0 := (2700, (.inl (fun _ => 0)))) hx hb (hts (.arrayClass .int) (List.mem_of_getElem? (i := 4) rfl)) rfl hK 0 (cI := cI) rfl hP hD hS hA (fun _ => rfl) (by decide) (by decide) (by decide) (Nat.le_of_ble_eq_true rfl) (Nat.le_of_ble_eq_true rfl) dX12_init_1379 (fun q293 H hP hD hS => ?_)
  have hP : va_P (dC, dI) vwCl [(h0, .inr (12, fs_292)), (q1, .inl (cI, 4000, (.inl (fun _ => 0)))), (q3, .inl (cI, 6, (.inl (fun _ => 0)))), (q5, .inl (cI, 49152, (.inl (fun _ => 0)))), (q7, .inl (cZ, 768, (.inl (fun _ => 0)))), (q293, .inl (cI, 2700, (.inl (fun _ => 0))))] H := hP
  have hD : va_D A [(h0, .inr (12, fs_292)), (q1, .inl (cI, 4000, (.inl (fun _ => 0)))), (q3, .inl (cI, 6, (.inl (fun _ => 0)))), (q5, .inl (cI, 49152, (.inl (fun _ => 0)))), (q7, .inl (cZ, 768, (.inl (fun _ => 0)))), (q293, .inl (cI, 2700, (.inl (fun _ => 0))))] := hD
  refine W.widen (k := 106) (n := 745041) (by decide) (by decide) ?_
  refine va_putF (D := (dC, dI)) (ci := 12) (v := .ref q293) (ty := .array (.int)) (C := RX12) (T := TX12) (N := 172) hx hb hts inX12_init_c12 tyX12 tyX12_ok nmX12 hown hK hP hD hS 0 rfl rfl 160 (by decide) (hts (.fieldLink RX12 336 "DiskEvidenceModel" "doubtWhich" "[I") (List.mem_of_getElem? (i := 118) rfl)) (fun _ h9 => h9) rfl hin rfl (by decide +kernel) rfl rfl (by rw [hfl_292]; decide) dX12_init_1381 (fun H locs hP hD hS => ?_)
  have hP : va_P (dC, dI) vwCl [(h0, .inr (12, (fs_292.set 160 (.ref q293)))), (q1, .inl (cI, 4000, (.inl (fun _ => 0)))), (q3, .inl (cI, 6, (.inl (fun _ => 0)))), (q5, .inl (cI, 49152, (.inl (fun _ => 0)))), (q7, .inl (cZ, 768, (.inl (fun _ => 0)))), (q293, .inl (cI, 2700, (.inl (fun _ => 0))))] H := hP
  have hD : va_D A [(h0, .inr (12, (fs_292.set 160 (.ref q293)))), (q1, .inl (cI, 4000, (.inl (fun _ => 0)))), (q3, .inl (cI, 6, (.inl (fun _ => 0)))), (q5, .inl (cI, 49152, (.inl (fun _ => 0)))), (q7, .inl (cZ, 768, (.inl (fun _ => 0)))), (q293, .inl (cI, 2700, (.inl (fun _ => 0))))] := hD
  obtain ⟨fs_294, efs_294⟩ : ∃ y, y = (fs_292.set 160 (.ref q293)) := ⟨_, rfl⟩
  rw [← efs_294] at hP hD
  have hfl_294 : fs_294.length = 172 := by rw [efs_294, List.length_set]; exact hfl_292
  have hP := hP.sub (ws' := [(h0, .inr (12, fs_294)), (q1, .inl (cI, 4000, (.inl (fun _ => 0)))), (q3, .inl (cI, 6, (.inl (fun _ => 0)))), (q5, .inl (cI, 49152, (.inl (fun _ => 0)))), (q7, .inl (cZ, 768, (.inl (fun _ => 0))))]) [0, 1, 2, 3, 4] rfl
  have hD := hD.sub (ws' := [(h0, .inr (12, fs_294)), (q1, .inl (cI, 4000, (.inl (fun _ => 0)))), (q3, .inl (cI, 6, (.inl (fun _ => 0)))), (q5, .inl (cI, 49152, (.inl (fun _ => 0)))), (q7, .inl (cZ, 768, (.inl (fun _ => 0))))]) [0, 1, 2, 3, 4] (by decide) rfl
  refine lv_aload_n hx hb dX12_init_1384 rfl (lv_at hl 0 rfl) ?_
  refine lv_bipush (v := 40) hx hb dX12_init_1385 (by decide) ?_
  refine nw_arr (atype := .int) (N' := 40) (a0 := (40, (.inl (fun _ => 0)))) hx hb (hts (.arrayClass .int) (List.mem_of_getElem? (i := 4) rfl)) rfl hK 0 (cI := cI) rfl hP hD hS hA (fun _ => rfl) (by decide) (by decide) (by decide) (Nat.le_of_ble_eq_true rfl) (Nat.le_of_ble_eq_true rfl) dX12_init_1387 (fun q295 H hP hD hS => ?_)
  have hP : va_P (dC, dI) vwCl [(h0, .inr (12, fs_294)), (q1, .inl (cI, 4000, (.inl (fun _ => 0)))), (q3, .inl (cI, 6, (.inl (fun _ => 0)))), (q5, .inl (cI, 49152, (.inl (fun _ => 0)))), (q7, .inl (cZ, 768, (.inl (fun _ => 0)))), (q295, .inl (cI, 40, (.inl (fun _ => 0))))] H := hP
  have hD : va_D A [(h0, .inr (12, fs_294)), (q1, .inl (cI, 4000, (.inl (fun _ => 0)))), (q3, .inl (cI, 6, (.inl (fun _ => 0)))), (q5, .inl (cI, 49152, (.inl (fun _ => 0)))), (q7, .inl (cZ, 768, (.inl (fun _ => 0)))), (q295, .inl (cI, 40, (.inl (fun _ => 0))))] := hD
  refine W.widen (k := 107) (n := 745081) (by decide) (by decide) ?_
  refine va_putF (D := (dC, dI)) (ci := 12) (v := .ref q295) (ty := .array (.int)) (C := RX12) (T := TX12) (N := 172) hx hb hts inX12_init_c12 tyX12 tyX12_ok nmX12 hown hK hP hD hS 0 rfl rfl 162 (by decide) (hts (.fieldLink RX12 339 "DiskEvidenceModel" "claimTree" "[I") (List.mem_of_getElem? (i := 119) rfl)) (fun _ h9 => h9) rfl hin rfl (by decide +kernel) rfl rfl (by rw [hfl_294]; decide) dX12_init_1389 (fun H locs hP hD hS => ?_)
  have hP : va_P (dC, dI) vwCl [(h0, .inr (12, (fs_294.set 162 (.ref q295)))), (q1, .inl (cI, 4000, (.inl (fun _ => 0)))), (q3, .inl (cI, 6, (.inl (fun _ => 0)))), (q5, .inl (cI, 49152, (.inl (fun _ => 0)))), (q7, .inl (cZ, 768, (.inl (fun _ => 0)))), (q295, .inl (cI, 40, (.inl (fun _ => 0))))] H := hP
  have hD : va_D A [(h0, .inr (12, (fs_294.set 162 (.ref q295)))), (q1, .inl (cI, 4000, (.inl (fun _ => 0)))), (q3, .inl (cI, 6, (.inl (fun _ => 0)))), (q5, .inl (cI, 49152, (.inl (fun _ => 0)))), (q7, .inl (cZ, 768, (.inl (fun _ => 0)))), (q295, .inl (cI, 40, (.inl (fun _ => 0))))] := hD
  obtain ⟨fs_296, efs_296⟩ : ∃ y, y = (fs_294.set 162 (.ref q295)) := ⟨_, rfl⟩
  rw [← efs_296] at hP hD
  have hfl_296 : fs_296.length = 172 := by rw [efs_296, List.length_set]; exact hfl_294
  have hP := hP.sub (ws' := [(h0, .inr (12, fs_296)), (q1, .inl (cI, 4000, (.inl (fun _ => 0)))), (q3, .inl (cI, 6, (.inl (fun _ => 0)))), (q5, .inl (cI, 49152, (.inl (fun _ => 0)))), (q7, .inl (cZ, 768, (.inl (fun _ => 0))))]) [0, 1, 2, 3, 4] rfl
  have hD := hD.sub (ws' := [(h0, .inr (12, fs_296)), (q1, .inl (cI, 4000, (.inl (fun _ => 0)))), (q3, .inl (cI, 6, (.inl (fun _ => 0)))), (q5, .inl (cI, 49152, (.inl (fun _ => 0)))), (q7, .inl (cZ, 768, (.inl (fun _ => 0))))]) [0, 1, 2, 3, 4] (by decide) rfl
  refine lv_aload_n hx hb dX12_init_1392 rfl (lv_at hl 0 rfl) ?_
  refine lv_bipush (v := 40) hx hb dX12_init_1393 (by decide) ?_
  refine nw_arr (atype := .int) (N' := 40) (a0 := (40, (.inl (fun _ => 0)))) hx hb (hts (.arrayClass .int) (List.mem_of_getElem? (i := 4) rfl)) rfl hK 0 (cI := cI) rfl hP hD hS hA (fun _ => rfl) (by decide) (by decide) (by decide) (Nat.le_of_ble_eq_true rfl) (Nat.le_of_ble_eq_true rfl) dX12_init_1395 (fun q297 H hP hD hS => ?_)
  have hP : va_P (dC, dI) vwCl [(h0, .inr (12, fs_296)), (q1, .inl (cI, 4000, (.inl (fun _ => 0)))), (q3, .inl (cI, 6, (.inl (fun _ => 0)))), (q5, .inl (cI, 49152, (.inl (fun _ => 0)))), (q7, .inl (cZ, 768, (.inl (fun _ => 0)))), (q297, .inl (cI, 40, (.inl (fun _ => 0))))] H := hP
  have hD : va_D A [(h0, .inr (12, fs_296)), (q1, .inl (cI, 4000, (.inl (fun _ => 0)))), (q3, .inl (cI, 6, (.inl (fun _ => 0)))), (q5, .inl (cI, 49152, (.inl (fun _ => 0)))), (q7, .inl (cZ, 768, (.inl (fun _ => 0)))), (q297, .inl (cI, 40, (.inl (fun _ => 0))))] := hD
  refine W.widen (k := 108) (n := 745121) (by decide) (by decide) ?_
  refine va_putF (D := (dC, dI)) (ci := 12) (v := .ref q297) (ty := .array (.int)) (C := RX12) (T := TX12) (N := 172) hx hb hts inX12_init_c12 tyX12 tyX12_ok nmX12 hown hK hP hD hS 0 rfl rfl 163 (by decide) (hts (.fieldLink RX12 342 "DiskEvidenceModel" "claimFile" "[I") (List.mem_of_getElem? (i := 120) rfl)) (fun _ h9 => h9) rfl hin rfl (by decide +kernel) rfl rfl (by rw [hfl_296]; decide) dX12_init_1397 (fun H locs hP hD hS => ?_)
  have hP : va_P (dC, dI) vwCl [(h0, .inr (12, (fs_296.set 163 (.ref q297)))), (q1, .inl (cI, 4000, (.inl (fun _ => 0)))), (q3, .inl (cI, 6, (.inl (fun _ => 0)))), (q5, .inl (cI, 49152, (.inl (fun _ => 0)))), (q7, .inl (cZ, 768, (.inl (fun _ => 0)))), (q297, .inl (cI, 40, (.inl (fun _ => 0))))] H := hP
  have hD : va_D A [(h0, .inr (12, (fs_296.set 163 (.ref q297)))), (q1, .inl (cI, 4000, (.inl (fun _ => 0)))), (q3, .inl (cI, 6, (.inl (fun _ => 0)))), (q5, .inl (cI, 49152, (.inl (fun _ => 0)))), (q7, .inl (cZ, 768, (.inl (fun _ => 0)))), (q297, .inl (cI, 40, (.inl (fun _ => 0))))] := hD
  obtain ⟨fs_298, efs_298⟩ : ∃ y, y = (fs_296.set 163 (.ref q297)) := ⟨_, rfl⟩
  rw [← efs_298] at hP hD
  have hfl_298 : fs_298.length = 172 := by rw [efs_298, List.length_set]; exact hfl_296
  have hP := hP.sub (ws' := [(h0, .inr (12, fs_298)), (q1, .inl (cI, 4000, (.inl (fun _ => 0)))), (q3, .inl (cI, 6, (.inl (fun _ => 0)))), (q5, .inl (cI, 49152, (.inl (fun _ => 0)))), (q7, .inl (cZ, 768, (.inl (fun _ => 0))))]) [0, 1, 2, 3, 4] rfl
  have hD := hD.sub (ws' := [(h0, .inr (12, fs_298)), (q1, .inl (cI, 4000, (.inl (fun _ => 0)))), (q3, .inl (cI, 6, (.inl (fun _ => 0)))), (q5, .inl (cI, 49152, (.inl (fun _ => 0)))), (q7, .inl (cZ, 768, (.inl (fun _ => 0))))]) [0, 1, 2, 3, 4] (by decide) rfl
  refine lv_aload_n hx hb dX12_init_1400 rfl (lv_at hl 0 rfl) ?_
  refine lv_bipush (v := 40) hx hb dX12_init_1401 (by decide) ?_
  refine nw_arr (atype := .int) (N' := 40) (a0 := (40, (.inl (fun _ => 0)))) hx hb (hts (.arrayClass .int) (List.mem_of_getElem? (i := 4) rfl)) rfl hK 0 (cI := cI) rfl hP hD hS hA (fun _ => rfl) (by decide) (by decide) (by decide) (Nat.le_of_ble_eq_true rfl) (Nat.le_of_ble_eq_true rfl) dX12_init_1403 (fun q299 H hP hD hS => ?_)
  have hP : va_P (dC, dI) vwCl [(h0, .inr (12, fs_298)), (q1, .inl (cI, 4000, (.inl (fun _ => 0)))), (q3, .inl (cI, 6, (.inl (fun _ => 0)))), (q5, .inl (cI, 49152, (.inl (fun _ => 0)))), (q7, .inl (cZ, 768, (.inl (fun _ => 0)))), (q299, .inl (cI, 40, (.inl (fun _ => 0))))] H := hP
  have hD : va_D A [(h0, .inr (12, fs_298)), (q1, .inl (cI, 4000, (.inl (fun _ => 0)))), (q3, .inl (cI, 6, (.inl (fun _ => 0)))), (q5, .inl (cI, 49152, (.inl (fun _ => 0)))), (q7, .inl (cZ, 768, (.inl (fun _ => 0)))), (q299, .inl (cI, 40, (.inl (fun _ => 0))))] := hD
  refine W.widen (k := 109) (n := 745161) (by decide) (by decide) ?_
  refine va_putF (D := (dC, dI)) (ci := 12) (v := .ref q299) (ty := .array (.int)) (C := RX12) (T := TX12) (N := 172) hx hb hts inX12_init_c12 tyX12 tyX12_ok nmX12 hown hK hP hD hS 0 rfl rfl 164 (by decide) (hts (.fieldLink RX12 345 "DiskEvidenceModel" "claimKind" "[I") (List.mem_of_getElem? (i := 121) rfl)) (fun _ h9 => h9) rfl hin rfl (by decide +kernel) rfl rfl (by rw [hfl_298]; decide) dX12_init_1405 (fun H locs hP hD hS => ?_)
  have hP : va_P (dC, dI) vwCl [(h0, .inr (12, (fs_298.set 164 (.ref q299)))), (q1, .inl (cI, 4000, (.inl (fun _ => 0)))), (q3, .inl (cI, 6, (.inl (fun _ => 0)))), (q5, .inl (cI, 49152, (.inl (fun _ => 0)))), (q7, .inl (cZ, 768, (.inl (fun _ => 0)))), (q299, .inl (cI, 40, (.inl (fun _ => 0))))] H := hP
  have hD : va_D A [(h0, .inr (12, (fs_298.set 164 (.ref q299)))), (q1, .inl (cI, 4000, (.inl (fun _ => 0)))), (q3, .inl (cI, 6, (.inl (fun _ => 0)))), (q5, .inl (cI, 49152, (.inl (fun _ => 0)))), (q7, .inl (cZ, 768, (.inl (fun _ => 0)))), (q299, .inl (cI, 40, (.inl (fun _ => 0))))] := hD
  obtain ⟨fs_300, efs_300⟩ : ∃ y, y = (fs_298.set 164 (.ref q299)) := ⟨_, rfl⟩
  rw [← efs_300] at hP hD
  have hfl_300 : fs_300.length = 172 := by rw [efs_300, List.length_set]; exact hfl_298
  have hP := hP.sub (ws' := [(h0, .inr (12, fs_300)), (q1, .inl (cI, 4000, (.inl (fun _ => 0)))), (q3, .inl (cI, 6, (.inl (fun _ => 0)))), (q5, .inl (cI, 49152, (.inl (fun _ => 0)))), (q7, .inl (cZ, 768, (.inl (fun _ => 0))))]) [0, 1, 2, 3, 4] rfl
  have hD := hD.sub (ws' := [(h0, .inr (12, fs_300)), (q1, .inl (cI, 4000, (.inl (fun _ => 0)))), (q3, .inl (cI, 6, (.inl (fun _ => 0)))), (q5, .inl (cI, 49152, (.inl (fun _ => 0)))), (q7, .inl (cZ, 768, (.inl (fun _ => 0))))]) [0, 1, 2, 3, 4] (by decide) rfl
  refine lv_aload_n hx hb dX12_init_1408 rfl (lv_at hl 0 rfl) ?_
  refine lv_bipush (v := 40) hx hb dX12_init_1409 (by decide) ?_
  refine nw_arr (atype := .int) (N' := 40) (a0 := (40, (.inl (fun _ => 0)))) hx hb (hts (.arrayClass .int) (List.mem_of_getElem? (i := 4) rfl)) rfl hK 0 (cI := cI) rfl hP hD hS hA (fun _ => rfl) (by decide) (by decide) (by decide) (Nat.le_of_ble_eq_true rfl) (Nat.le_of_ble_eq_true rfl) dX12_init_1411 (fun q301 H hP hD hS => ?_)
  have hP : va_P (dC, dI) vwCl [(h0, .inr (12, fs_300)), (q1, .inl (cI, 4000, (.inl (fun _ => 0)))), (q3, .inl (cI, 6, (.inl (fun _ => 0)))), (q5, .inl (cI, 49152, (.inl (fun _ => 0)))), (q7, .inl (cZ, 768, (.inl (fun _ => 0)))), (q301, .inl (cI, 40, (.inl (fun _ => 0))))] H := hP
  have hD : va_D A [(h0, .inr (12, fs_300)), (q1, .inl (cI, 4000, (.inl (fun _ => 0)))), (q3, .inl (cI, 6, (.inl (fun _ => 0)))), (q5, .inl (cI, 49152, (.inl (fun _ => 0)))), (q7, .inl (cZ, 768, (.inl (fun _ => 0)))), (q301, .inl (cI, 40, (.inl (fun _ => 0))))] := hD
  refine W.widen (k := 110) (n := 745201) (by decide) (by decide) ?_
  refine va_putF (D := (dC, dI)) (ci := 12) (v := .ref q301) (ty := .array (.int)) (C := RX12) (T := TX12) (N := 172) hx hb hts inX12_init_c12 tyX12 tyX12_ok nmX12 hown hK hP hD hS 0 rfl rfl 165 (by decide) (hts (.fieldLink RX12 348 "DiskEvidenceModel" "claimA" "[I") (List.mem_of_getElem? (i := 122) rfl)) (fun _ h9 => h9) rfl hin rfl (by decide +kernel) rfl rfl (by rw [hfl_300]; decide) dX12_init_1413 (fun H locs hP hD hS => ?_)
  have hP : va_P (dC, dI) vwCl [(h0, .inr (12, (fs_300.set 165 (.ref q301)))), (q1, .inl (cI, 4000, (.inl (fun _ => 0)))), (q3, .inl (cI, 6, (.inl (fun _ => 0)))), (q5, .inl (cI, 49152, (.inl (fun _ => 0)))), (q7, .inl (cZ, 768, (.inl (fun _ => 0)))), (q301, .inl (cI, 40, (.inl (fun _ => 0))))] H := hP
  have hD : va_D A [(h0, .inr (12, (fs_300.set 165 (.ref q301)))), (q1, .inl (cI, 4000, (.inl (fun _ => 0)))), (q3, .inl (cI, 6, (.inl (fun _ => 0)))), (q5, .inl (cI, 49152, (.inl (fun _ => 0)))), (q7, .inl (cZ, 768, (.inl (fun _ => 0)))), (q301, .inl (cI, 40, (.inl (fun _ => 0))))] := hD
  obtain ⟨fs_302, efs_302⟩ : ∃ y, y = (fs_300.set 165 (.ref q301)) := ⟨_, rfl⟩
  rw [← efs_302] at hP hD
  have hfl_302 : fs_302.length = 172 := by rw [efs_302, List.length_set]; exact hfl_300
  have hP := hP.sub (ws' := [(h0, .inr (12, fs_302)), (q1, .inl (cI, 4000, (.inl (fun _ => 0)))), (q3, .inl (cI, 6, (.inl (fun _ => 0)))), (q5, .inl (cI, 49152, (.inl (fun _ => 0)))), (q7, .inl (cZ, 768, (.inl (fun _ => 0))))]) [0, 1, 2, 3, 4] rfl
  have hD := hD.sub (ws' := [(h0, .inr (12, fs_302)), (q1, .inl (cI, 4000, (.inl (fun _ => 0)))), (q3, .inl (cI, 6, (.inl (fun _ => 0)))), (q5, .inl (cI, 49152, (.inl (fun _ => 0)))), (q7, .inl (cZ, 768, (.inl (fun _ => 0))))]) [0, 1, 2, 3, 4] (by decide) rfl
  refine lv_aload_n hx hb dX12_init_1416 rfl (lv_at hl 0 rfl) ?_
  refine lv_bipush (v := 40) hx hb dX12_init_1417 (by decide) ?_
  refine nw_arr (atype := .int) (N' := 40) (a0 := (40, (.inl (fun _ => 0)))) hx hb (hts (.arrayClass .int) (List.mem_of_getElem? (i := 4) rfl)) rfl hK 0 (cI := cI) rfl hP hD hS hA (fun _ => rfl) (by decide) (by decide) (by decide) (Nat.le_of_ble_eq_true rfl) (Nat.le_of_ble_eq_true rfl) dX12_init_1419 (fun q303 H hP hD hS => ?_)
  have hP : va_P (dC, dI) vwCl [(h0, .inr (12, fs_302)), (q1, .inl (cI, 4000, (.inl (fun _ => 0)))), (q3, .inl (cI, 6, (.inl (fun _ => 0)))), (q5, .inl (cI, 49152, (.inl (fun _ => 0)))), (q7, .inl (cZ, 768, (.inl (fun _ => 0)))), (q303, .inl (cI, 40, (.inl (fun _ => 0))))] H := hP
  have hD : va_D A [(h0, .inr (12, fs_302)), (q1, .inl (cI, 4000, (.inl (fun _ => 0)))), (q3, .inl (cI, 6, (.inl (fun _ => 0)))), (q5, .inl (cI, 49152, (.inl (fun _ => 0)))), (q7, .inl (cZ, 768, (.inl (fun _ => 0)))), (q303, .inl (cI, 40, (.inl (fun _ => 0))))] := hD
  refine W.widen (k := 111) (n := 745241) (by decide) (by decide) ?_
  refine va_putF (D := (dC, dI)) (ci := 12) (v := .ref q303) (ty := .array (.int)) (C := RX12) (T := TX12) (N := 172) hx hb hts inX12_init_c12 tyX12 tyX12_ok nmX12 hown hK hP hD hS 0 rfl rfl 166 (by decide) (hts (.fieldLink RX12 351 "DiskEvidenceModel" "claimGrade" "[I") (List.mem_of_getElem? (i := 123) rfl)) (fun _ h9 => h9) rfl hin rfl (by decide +kernel) rfl rfl (by rw [hfl_302]; decide) dX12_init_1421 (fun H locs hP hD hS => ?_)
  have hP : va_P (dC, dI) vwCl [(h0, .inr (12, (fs_302.set 166 (.ref q303)))), (q1, .inl (cI, 4000, (.inl (fun _ => 0)))), (q3, .inl (cI, 6, (.inl (fun _ => 0)))), (q5, .inl (cI, 49152, (.inl (fun _ => 0)))), (q7, .inl (cZ, 768, (.inl (fun _ => 0)))), (q303, .inl (cI, 40, (.inl (fun _ => 0))))] H := hP
  have hD : va_D A [(h0, .inr (12, (fs_302.set 166 (.ref q303)))), (q1, .inl (cI, 4000, (.inl (fun _ => 0)))), (q3, .inl (cI, 6, (.inl (fun _ => 0)))), (q5, .inl (cI, 49152, (.inl (fun _ => 0)))), (q7, .inl (cZ, 768, (.inl (fun _ => 0)))), (q303, .inl (cI, 40, (.inl (fun _ => 0))))] := hD
  obtain ⟨fs_304, efs_304⟩ : ∃ y, y = (fs_302.set 166 (.ref q303)) := ⟨_, rfl⟩
  rw [← efs_304] at hP hD
  have hfl_304 : fs_304.length = 172 := by rw [efs_304, List.length_set]; exact hfl_302
  have hP := hP.sub (ws' := [(h0, .inr (12, fs_304)), (q1, .inl (cI, 4000, (.inl (fun _ => 0)))), (q3, .inl (cI, 6, (.inl (fun _ => 0)))), (q5, .inl (cI, 49152, (.inl (fun _ => 0)))), (q7, .inl (cZ, 768, (.inl (fun _ => 0))))]) [0, 1, 2, 3, 4] rfl
  have hD := hD.sub (ws' := [(h0, .inr (12, fs_304)), (q1, .inl (cI, 4000, (.inl (fun _ => 0)))), (q3, .inl (cI, 6, (.inl (fun _ => 0)))), (q5, .inl (cI, 49152, (.inl (fun _ => 0)))), (q7, .inl (cZ, 768, (.inl (fun _ => 0))))]) [0, 1, 2, 3, 4] (by decide) rfl
  refine lv_aload_n hx hb dX12_init_1424 rfl (lv_at hl 0 rfl) ?_
  refine lv_bipush (v := 100) hx hb dX12_init_1425 (by decide) ?_
  refine nw_arr (atype := .int) (N' := 100) (a0 := (100, (.inl (fun _ => 0)))) hx hb (hts (.arrayClass .int) (List.mem_of_getElem? (i := 4) rfl)) rfl hK 0 (cI := cI) rfl hP hD hS hA (fun _ => rfl) (by decide) (by decide) (by decide) (Nat.le_of_ble_eq_true rfl) (Nat.le_of_ble_eq_true rfl) dX12_init_1427 (fun q305 H hP hD hS => ?_)
  have hP : va_P (dC, dI) vwCl [(h0, .inr (12, fs_304)), (q1, .inl (cI, 4000, (.inl (fun _ => 0)))), (q3, .inl (cI, 6, (.inl (fun _ => 0)))), (q5, .inl (cI, 49152, (.inl (fun _ => 0)))), (q7, .inl (cZ, 768, (.inl (fun _ => 0)))), (q305, .inl (cI, 100, (.inl (fun _ => 0))))] H := hP
  have hD : va_D A [(h0, .inr (12, fs_304)), (q1, .inl (cI, 4000, (.inl (fun _ => 0)))), (q3, .inl (cI, 6, (.inl (fun _ => 0)))), (q5, .inl (cI, 49152, (.inl (fun _ => 0)))), (q7, .inl (cZ, 768, (.inl (fun _ => 0)))), (q305, .inl (cI, 100, (.inl (fun _ => 0))))] := hD
  refine W.widen (k := 112) (n := 745341) (by decide) (by decide) ?_
  refine va_putF (D := (dC, dI)) (ci := 12) (v := .ref q305) (ty := .array (.int)) (C := RX12) (T := TX12) (N := 172) hx hb hts inX12_init_c12 tyX12 tyX12_ok nmX12 hown hK hP hD hS 0 rfl rfl 168 (by decide) (hts (.fieldLink RX12 354 "DiskEvidenceModel" "actWho" "[I") (List.mem_of_getElem? (i := 124) rfl)) (fun _ h9 => h9) rfl hin rfl (by decide +kernel) rfl rfl (by rw [hfl_304]; decide) dX12_init_1429 (fun H locs hP hD hS => ?_)
  have hP : va_P (dC, dI) vwCl [(h0, .inr (12, (fs_304.set 168 (.ref q305)))), (q1, .inl (cI, 4000, (.inl (fun _ => 0)))), (q3, .inl (cI, 6, (.inl (fun _ => 0)))), (q5, .inl (cI, 49152, (.inl (fun _ => 0)))), (q7, .inl (cZ, 768, (.inl (fun _ => 0)))), (q305, .inl (cI, 100, (.inl (fun _ => 0))))] H := hP
  have hD : va_D A [(h0, .inr (12, (fs_304.set 168 (.ref q305)))), (q1, .inl (cI, 4000, (.inl (fun _ => 0)))), (q3, .inl (cI, 6, (.inl (fun _ => 0)))), (q5, .inl (cI, 49152, (.inl (fun _ => 0)))), (q7, .inl (cZ, 768, (.inl (fun _ => 0)))), (q305, .inl (cI, 100, (.inl (fun _ => 0))))] := hD
  obtain ⟨fs_306, efs_306⟩ : ∃ y, y = (fs_304.set 168 (.ref q305)) := ⟨_, rfl⟩
  rw [← efs_306] at hP hD
  have hfl_306 : fs_306.length = 172 := by rw [efs_306, List.length_set]; exact hfl_304
  refine lv_aload_n hx hb dX12_init_1432 rfl (lv_at hl 0 rfl) ?_
  refine lv_bipush (v := 100) hx hb dX12_init_1433 (by decide) ?_
  refine nw_arr (atype := .int) (N' := 100) (a0 := (100, (.inl (fun _ => 0)))) hx hb (hts (.arrayClass .int) (List.mem_of_getElem? (i := 4) rfl)) rfl hK 0 (cI := cI) rfl hP hD hS hA (fun _ => rfl) (by decide) (by decide) (by decide) (Nat.le_of_ble_eq_true rfl) (Nat.le_of_ble_eq_true rfl) dX12_init_1435 (fun q307 H hP hD hS => ?_)
  have hP : va_P (dC, dI) vwCl [(h0, .inr (12, fs_306)), (q1, .inl (cI, 4000, (.inl (fun _ => 0)))), (q3, .inl (cI, 6, (.inl (fun _ => 0)))), (q5, .inl (cI, 49152, (.inl (fun _ => 0)))), (q7, .inl (cZ, 768, (.inl (fun _ => 0)))), (q305, .inl (cI, 100, (.inl (fun _ => 0)))), (q307, .inl (cI, 100, (.inl (fun _ => 0))))] H := hP
  have hD : va_D A [(h0, .inr (12, fs_306)), (q1, .inl (cI, 4000, (.inl (fun _ => 0)))), (q3, .inl (cI, 6, (.inl (fun _ => 0)))), (q5, .inl (cI, 49152, (.inl (fun _ => 0)))), (q7, .inl (cZ, 768, (.inl (fun _ => 0)))), (q305, .inl (cI, 100, (.inl (fun _ => 0)))), (q307, .inl (cI, 100, (.inl (fun _ => 0))))] := hD
  refine W.widen (k := 113) (n := 745441) (by decide) (by decide) ?_
  refine va_putF (D := (dC, dI)) (ci := 12) (v := .ref q307) (ty := .array (.int)) (C := RX12) (T := TX12) (N := 172) hx hb hts inX12_init_c12 tyX12 tyX12_ok nmX12 hown hK hP hD hS 0 rfl rfl 169 (by decide) (hts (.fieldLink RX12 357 "DiskEvidenceModel" "actWhat" "[I") (List.mem_of_getElem? (i := 125) rfl)) (fun _ h9 => h9) rfl hin rfl (by decide +kernel) rfl rfl (by rw [hfl_306]; decide) dX12_init_1437 (fun H locs hP hD hS => ?_)
  have hP : va_P (dC, dI) vwCl [(h0, .inr (12, (fs_306.set 169 (.ref q307)))), (q1, .inl (cI, 4000, (.inl (fun _ => 0)))), (q3, .inl (cI, 6, (.inl (fun _ => 0)))), (q5, .inl (cI, 49152, (.inl (fun _ => 0)))), (q7, .inl (cZ, 768, (.inl (fun _ => 0)))), (q305, .inl (cI, 100, (.inl (fun _ => 0)))), (q307, .inl (cI, 100, (.inl (fun _ => 0))))] H := hP
  have hD : va_D A [(h0, .inr (12, (fs_306.set 169 (.ref q307)))), (q1, .inl (cI, 4000, (.inl (fun _ => 0)))), (q3, .inl (cI, 6, (.inl (fun _ => 0)))), (q5, .inl (cI, 49152, (.inl (fun _ => 0)))), (q7, .inl (cZ, 768, (.inl (fun _ => 0)))), (q305, .inl (cI, 100, (.inl (fun _ => 0)))), (q307, .inl (cI, 100, (.inl (fun _ => 0))))] := hD
  obtain ⟨fs_308, efs_308⟩ : ∃ y, y = (fs_306.set 169 (.ref q307)) := ⟨_, rfl⟩
  rw [← efs_308] at hP hD
  have hfl_308 : fs_308.length = 172 := by rw [efs_308, List.length_set]; exact hfl_306
  refine lv_aload_n hx hb dX12_init_1440 rfl (lv_at hl 0 rfl) ?_
  refine lv_bipush (v := 100) hx hb dX12_init_1441 (by decide) ?_
  refine nw_arr (atype := .int) (N' := 100) (a0 := (100, (.inl (fun _ => 0)))) hx hb (hts (.arrayClass .int) (List.mem_of_getElem? (i := 4) rfl)) rfl hK 0 (cI := cI) rfl hP hD hS hA (fun _ => rfl) (by decide) (by decide) (by decide) (Nat.le_of_ble_eq_true rfl) (Nat.le_of_ble_eq_true rfl) dX12_init_1443 (fun q309 H hP hD hS => ?_)
  have hP : va_P (dC, dI) vwCl [(h0, .inr (12, fs_308)), (q1, .inl (cI, 4000, (.inl (fun _ => 0)))), (q3, .inl (cI, 6, (.inl (fun _ => 0)))), (q5, .inl (cI, 49152, (.inl (fun _ => 0)))), (q7, .inl (cZ, 768, (.inl (fun _ => 0)))), (q305, .inl (cI, 100, (.inl (fun _ => 0)))), (q307, .inl (cI, 100, (.inl (fun _ => 0)))), (q309, .inl (cI, 100, (.inl (fun _ => 0))))] H := hP
  have hD : va_D A [(h0, .inr (12, fs_308)), (q1, .inl (cI, 4000, (.inl (fun _ => 0)))), (q3, .inl (cI, 6, (.inl (fun _ => 0)))), (q5, .inl (cI, 49152, (.inl (fun _ => 0)))), (q7, .inl (cZ, 768, (.inl (fun _ => 0)))), (q305, .inl (cI, 100, (.inl (fun _ => 0)))), (q307, .inl (cI, 100, (.inl (fun _ => 0)))), (q309, .inl (cI, 100, (.inl (fun _ => 0))))] := hD
  refine W.widen (k := 114) (n := 745541) (by decide) (by decide) ?_
  refine va_putF (D := (dC, dI)) (ci := 12) (v := .ref q309) (ty := .array (.int)) (C := RX12) (T := TX12) (N := 172) hx hb hts inX12_init_c12 tyX12 tyX12_ok nmX12 hown hK hP hD hS 0 rfl rfl 170 (by decide) (hts (.fieldLink RX12 360 "DiskEvidenceModel" "actAt" "[I") (List.mem_of_getElem? (i := 126) rfl)) (fun _ h9 => h9) rfl hin rfl (by decide +kernel) rfl rfl (by rw [hfl_308]; decide) dX12_init_1445 (fun H locs hP hD hS => ?_)
  have hP : va_P (dC, dI) vwCl [(h0, .inr (12, (fs_308.set 170 (.ref q309)))), (q1, .inl (cI, 4000, (.inl (fun _ => 0)))), (q3, .inl (cI, 6, (.inl (fun _ => 0)))), (q5, .inl (cI, 49152, (.inl (fun _ => 0)))), (q7, .inl (cZ, 768, (.inl (fun _ => 0)))), (q305, .inl (cI, 100, (.inl (fun _ => 0)))), (q307, .inl (cI, 100, (.inl (fun _ => 0)))), (q309, .inl (cI, 100, (.inl (fun _ => 0))))] H := hP
  have hD : va_D A [(h0, .inr (12, (fs_308.set 170 (.ref q309)))), (q1, .inl (cI, 4000, (.inl (fun _ => 0)))), (q3, .inl (cI, 6, (.inl (fun _ => 0)))), (q5, .inl (cI, 49152, (.inl (fun _ => 0)))), (q7, .inl (cZ, 768, (.inl (fun _ => 0)))), (q305, .inl (cI, 100, (.inl (fun _ => 0)))), (q307, .inl (cI, 100, (.inl (fun _ => 0)))), (q309, .inl (cI, 100, (.inl (fun _ => 0))))] := hD
  obtain ⟨fs_310, efs_310⟩ : ∃ y, y = (fs_308.set 170 (.ref q309)) := ⟨_, rfl⟩
  rw [← efs_310] at hP hD
  have hfl_310 : fs_310.length = 172 := by rw [efs_310, List.length_set]; exact hfl_308
  refine lv_aload_n hx hb dX12_init_1448 rfl (lv_at hl 0 rfl) ?_
  refine lv_bipush (v := 100) hx hb dX12_init_1449 (by decide) ?_
  refine nw_arr (atype := .long) (N' := 100) (a0 := (100, (.inr (.inl (fun _ => 0))))) hx hb (hts (.arrayClass .long) (List.mem_of_getElem? (i := 57) rfl)) rfl hK 3 (cI := cJ) rfl hP hD hS hA (fun _ => rfl) (by decide) (by decide) (by decide) (Nat.le_of_ble_eq_true rfl) (Nat.le_of_ble_eq_true rfl) dX12_init_1451 (fun q311 H hP hD hS => ?_)
  have hP : va_P (dC, dI) vwCl [(h0, .inr (12, fs_310)), (q1, .inl (cI, 4000, (.inl (fun _ => 0)))), (q3, .inl (cI, 6, (.inl (fun _ => 0)))), (q5, .inl (cI, 49152, (.inl (fun _ => 0)))), (q7, .inl (cZ, 768, (.inl (fun _ => 0)))), (q305, .inl (cI, 100, (.inl (fun _ => 0)))), (q307, .inl (cI, 100, (.inl (fun _ => 0)))), (q309, .inl (cI, 100, (.inl (fun _ => 0)))), (q311, .inl (cJ, 100, (.inr (.inl (fun _ => 0)))))] H := hP
  have hD : va_D A [(h0, .inr (12, fs_310)), (q1, .inl (cI, 4000, (.inl (fun _ => 0)))), (q3, .inl (cI, 6, (.inl (fun _ => 0)))), (q5, .inl (cI, 49152, (.inl (fun _ => 0)))), (q7, .inl (cZ, 768, (.inl (fun _ => 0)))), (q305, .inl (cI, 100, (.inl (fun _ => 0)))), (q307, .inl (cI, 100, (.inl (fun _ => 0)))), (q309, .inl (cI, 100, (.inl (fun _ => 0)))), (q311, .inl (cJ, 100, (.inr (.inl (fun _ => 0)))))] := hD
  refine W.widen (k := 115) (n := 745641) (by decide) (by decide) ?_
  refine va_putF (D := (dC, dI)) (ci := 12) (v := .ref q311) (ty := .array (.long)) (C := RX12) (T := TX12) (N := 172) hx hb hts inX12_init_c12 tyX12 tyX12_ok nmX12 hown hK hP hD hS 0 rfl rfl 171 (by decide) (hts (.fieldLink RX12 363 "DiskEvidenceModel" "actLink" "[J") (List.mem_of_getElem? (i := 127) rfl)) (fun _ h9 => h9) rfl hin rfl (by decide +kernel) rfl rfl (by rw [hfl_310]; decide) dX12_init_1453 (fun H locs hP hD hS => ?_)
  have hP : va_P (dC, dI) vwCl [(h0, .inr (12, (fs_310.set 171 (.ref q311)))), (q1, .inl (cI, 4000, (.inl (fun _ => 0)))), (q3, .inl (cI, 6, (.inl (fun _ => 0)))), (q5, .inl (cI, 49152, (.inl (fun _ => 0)))), (q7, .inl (cZ, 768, (.inl (fun _ => 0)))), (q305, .inl (cI, 100, (.inl (fun _ => 0)))), (q307, .inl (cI, 100, (.inl (fun _ => 0)))), (q309, .inl (cI, 100, (.inl (fun _ => 0)))), (q311, .inl (cJ, 100, (.inr (.inl (fun _ => 0)))))] H := hP
  have hD : va_D A [(h0, .inr (12, (fs_310.set 171 (.ref q311)))), (q1, .inl (cI, 4000, (.inl (fun _ => 0)))), (q3, .inl (cI, 6, (.inl (fun _ => 0)))), (q5, .inl (cI, 49152, (.inl (fun _ => 0)))), (q7, .inl (cZ, 768, (.inl (fun _ => 0)))), (q305, .inl (cI, 100, (.inl (fun _ => 0)))), (q307, .inl (cI, 100, (.inl (fun _ => 0)))), (q309, .inl (cI, 100, (.inl (fun _ => 0)))), (q311, .inl (cJ, 100, (.inr (.inl (fun _ => 0)))))] := hD
  obtain ⟨fs_312, efs_312⟩ : ∃ y, y = (fs_310.set 171 (.ref q311)) := ⟨_, rfl⟩
  rw [← efs_312] at hP hD
  have hfl_312 : fs_312.length = 172 := by rw [efs_312, List.length_set]; exact hfl_310
  refine lv_aload_n hx hb dX12_init_1456 rfl (lv_at hl 0 rfl) ?_
  refine lv_iconst (v := 0) hx hb dX12_init_1457 (by decide) ?_
  refine va_put (D := (dC, dI)) (ci := 12) (v := .int 0) (ty := .int) (C := RX12) (T := TX12) (N := 172) hx hb hts inX12_init_c12 tyX12 tyX12_ok nmX12 hown hK hP hD hS 0 rfl rfl 167 (by decide) (hts (.fieldLink RX12 366 "DiskEvidenceModel" "acts" "I") (List.mem_of_getElem? (i := 128) rfl)) (fun _ h9 => h9) rfl (by decide +kernel) rfl rfl (by rw [hfl_312]; decide) dX12_init_1458 (fun H locs hP hD hS => ?_)
  have hP : va_P (dC, dI) vwCl [(h0, .inr (12, (fs_312.set 167 (.int 0)))), (q1, .inl (cI, 4000, (.inl (fun _ => 0)))), (q3, .inl (cI, 6, (.inl (fun _ => 0)))), (q5, .inl (cI, 49152, (.inl (fun _ => 0)))), (q7, .inl (cZ, 768, (.inl (fun _ => 0)))), (q305, .inl (cI, 100, (.inl (fun _ => 0)))), (q307, .inl (cI, 100, (.inl (fun _ => 0)))), (q309, .inl (cI, 100, (.inl (fun _ => 0)))), (q311, .inl (cJ, 100, (.inr (.inl (fun _ => 0)))))] H := hP
  have hD : va_D A [(h0, .inr (12, (fs_312.set 167 (.int 0)))), (q1, .inl (cI, 4000, (.inl (fun _ => 0)))), (q3, .inl (cI, 6, (.inl (fun _ => 0)))), (q5, .inl (cI, 49152, (.inl (fun _ => 0)))), (q7, .inl (cZ, 768, (.inl (fun _ => 0)))), (q305, .inl (cI, 100, (.inl (fun _ => 0)))), (q307, .inl (cI, 100, (.inl (fun _ => 0)))), (q309, .inl (cI, 100, (.inl (fun _ => 0)))), (q311, .inl (cJ, 100, (.inr (.inl (fun _ => 0)))))] := hD
  obtain ⟨fs_313, efs_313⟩ : ∃ y, y = (fs_312.set 167 (.int 0)) := ⟨_, rfl⟩
  rw [← efs_313] at hP hD
  have hfl_313 : fs_313.length = 172 := by rw [efs_313, List.length_set]; exact hfl_312
  subst efs_2
  subst efs_4
  subst efs_6
  subst efs_8
  subst efs_10
  subst efs_12
  subst efs_14
  subst efs_16
  subst efs_18
  subst efs_20
  subst efs_22
  subst efs_23
  subst efs_25
  subst efs_27
  subst efs_29
  subst efs_31
  subst efs_33
  subst efs_35
  subst efs_37
  subst efs_39
  subst efs_41
  subst efs_43
  subst efs_45
  subst efs_47
  subst efs_49
  subst efs_51
  subst efs_53
  subst efs_55
  subst efs_57
  subst efs_59
  subst efs_61
  subst efs_63
  subst efs_65
  subst efs_67
  subst efs_69
  subst efs_71
  subst efs_73
  subst efs_75
  subst efs_77
  subst efs_79
  subst efs_81
  subst efs_83
  subst efs_85
  subst efs_87
  subst efs_89
  subst efs_91
  subst efs_93
  subst efs_95
  subst efs_97
  subst efs_99
  subst efs_101
  subst efs_103
  subst efs_105
  subst efs_107
  subst efs_109
  subst efs_111
  subst efs_113
  subst efs_115
  subst efs_117
  subst efs_119
  subst efs_121
  subst efs_123
  subst efs_125
  subst efs_127
  subst efs_129
  subst efs_131
  subst efs_133
  subst efs_135
  subst efs_137
  subst efs_139
  subst efs_141
  subst efs_143
  subst efs_145
  subst efs_147
  subst efs_149
  subst efs_151
  subst efs_153
  subst efs_155
  subst efs_157
  subst efs_159
  subst efs_161
  subst efs_163
  subst efs_165
  subst efs_167
  subst efs_169
  subst efs_171
  subst efs_173
  subst efs_175
  subst efs_243
  subst efs_256
  subst efs_262
  subst efs_264
  subst efs_266
  subst efs_268
  subst efs_270
  subst efs_272
  subst efs_274
  subst efs_276
  subst efs_278
  subst efs_280
  subst efs_282
  subst efs_284
  subst efs_286
  subst efs_288
  subst efs_290
  subst efs_292
  subst efs_294
  subst efs_296
  subst efs_298
  subst efs_300
  subst efs_302
  subst efs_304
  subst efs_306
  subst efs_308
  subst efs_310
  subst efs_312
  subst efs_313
  have hP9 := hP.sub (ws' := [(h0, .inr (12, fsM (pick [0, q1, 0, 0, q3, q5, q7, 0, q9, q11, q13, q15, q17, q19, q21, 0, 0, q24, q26, 0, 0, q28, q30, q32, q34, q36, 0, q38, q40, 0, 0, q42, q44, q46, 0, q48, q50, q52, q54, 0, 0, 0, 0, 0, 0, 0, 0, 0, 0, 0, q56, q58, 0, 0, q60, 0, 0, 0, 0, 0, q62, q64, q66, q68, q70, q72, q74, q76, q78, q80, q82, q84, q86, q88, q90, q92, q94, q96, q98, q100, q102, q104, q106, q108, q110, q112, q114, q116, q118, q120, q122, 0, 0, 0, q124, q126, q128, 0, q130, q132, q134, q136, 0, q138, q140, q142, 0, 0, 0, 0, 0, q144, q146, q148, q150, q152, q154, q156, q158, q160, 0, q162, 0, q164, 0, q166, q168, q170, 0, 0, q172, q174, q176, q244, q257, 0, 0, 0, q263, 0, q265, 0, q267, q269, q271, q273, 0, 0, q275, 0, q277, 0, q279, q281, q283, q285, q287, 0, q289, q291, q293, 0, q295, q297, q299, q301, q303, 0, q305, q307, q309, q311]))), (((pick [0, q1, 0, 0, q3, q5, q7, 0, q9, q11, q13, q15, q17, q19, q21, 0, 0, q24, q26, 0, 0, q28, q30, q32, q34, q36, 0, q38, q40, 0, 0, q42, q44, q46, 0, q48, q50, q52, q54, 0, 0, 0, 0, 0, 0, 0, 0, 0, 0, 0, q56, q58, 0, 0, q60, 0, 0, 0, 0, 0, q62, q64, q66, q68, q70, q72, q74, q76, q78, q80, q82, q84, q86, q88, q90, q92, q94, q96, q98, q100, q102, q104, q106, q108, q110, q112, q114, q116, q118, q120, q122, 0, 0, 0, q124, q126, q128, 0, q130, q132, q134, q136, 0, q138, q140, q142, 0, 0, 0, 0, 0, q144, q146, q148, q150, q152, q154, q156, q158, q160, 0, q162, 0, q164, 0, q166, q168, q170, 0, 0, q172, q174, q176, q244, q257, 0, 0, 0, q263, 0, q265, 0, q267, q269, q271, q273, 0, 0, q275, 0, q277, 0, q279, q281, q283, q285, q287, 0, q289, q291, q293, 0, q295, q297, q299, q301, q303, 0, q305, q307, q309, q311]) 1), .inl (cI, 4000, (.inl (fun _ => 0)))), (((pick [0, q1, 0, 0, q3, q5, q7, 0, q9, q11, q13, q15, q17, q19, q21, 0, 0, q24, q26, 0, 0, q28, q30, q32, q34, q36, 0, q38, q40, 0, 0, q42, q44, q46, 0, q48, q50, q52, q54, 0, 0, 0, 0, 0, 0, 0, 0, 0, 0, 0, q56, q58, 0, 0, q60, 0, 0, 0, 0, 0, q62, q64, q66, q68, q70, q72, q74, q76, q78, q80, q82, q84, q86, q88, q90, q92, q94, q96, q98, q100, q102, q104, q106, q108, q110, q112, q114, q116, q118, q120, q122, 0, 0, 0, q124, q126, q128, 0, q130, q132, q134, q136, 0, q138, q140, q142, 0, 0, 0, 0, 0, q144, q146, q148, q150, q152, q154, q156, q158, q160, 0, q162, 0, q164, 0, q166, q168, q170, 0, 0, q172, q174, q176, q244, q257, 0, 0, 0, q263, 0, q265, 0, q267, q269, q271, q273, 0, 0, q275, 0, q277, 0, q279, q281, q283, q285, q287, 0, q289, q291, q293, 0, q295, q297, q299, q301, q303, 0, q305, q307, q309, q311]) 4), .inl (cI, 6, (.inl (fun _ => 0)))), (((pick [0, q1, 0, 0, q3, q5, q7, 0, q9, q11, q13, q15, q17, q19, q21, 0, 0, q24, q26, 0, 0, q28, q30, q32, q34, q36, 0, q38, q40, 0, 0, q42, q44, q46, 0, q48, q50, q52, q54, 0, 0, 0, 0, 0, 0, 0, 0, 0, 0, 0, q56, q58, 0, 0, q60, 0, 0, 0, 0, 0, q62, q64, q66, q68, q70, q72, q74, q76, q78, q80, q82, q84, q86, q88, q90, q92, q94, q96, q98, q100, q102, q104, q106, q108, q110, q112, q114, q116, q118, q120, q122, 0, 0, 0, q124, q126, q128, 0, q130, q132, q134, q136, 0, q138, q140, q142, 0, 0, 0, 0, 0, q144, q146, q148, q150, q152, q154, q156, q158, q160, 0, q162, 0, q164, 0, q166, q168, q170, 0, 0, q172, q174, q176, q244, q257, 0, 0, 0, q263, 0, q265, 0, q267, q269, q271, q273, 0, 0, q275, 0, q277, 0, q279, q281, q283, q285, q287, 0, q289, q291, q293, 0, q295, q297, q299, q301, q303, 0, q305, q307, q309, q311]) 5), .inl (cI, 49152, (.inl (fun _ => 0)))), (((pick [0, q1, 0, 0, q3, q5, q7, 0, q9, q11, q13, q15, q17, q19, q21, 0, 0, q24, q26, 0, 0, q28, q30, q32, q34, q36, 0, q38, q40, 0, 0, q42, q44, q46, 0, q48, q50, q52, q54, 0, 0, 0, 0, 0, 0, 0, 0, 0, 0, 0, q56, q58, 0, 0, q60, 0, 0, 0, 0, 0, q62, q64, q66, q68, q70, q72, q74, q76, q78, q80, q82, q84, q86, q88, q90, q92, q94, q96, q98, q100, q102, q104, q106, q108, q110, q112, q114, q116, q118, q120, q122, 0, 0, 0, q124, q126, q128, 0, q130, q132, q134, q136, 0, q138, q140, q142, 0, 0, 0, 0, 0, q144, q146, q148, q150, q152, q154, q156, q158, q160, 0, q162, 0, q164, 0, q166, q168, q170, 0, 0, q172, q174, q176, q244, q257, 0, 0, 0, q263, 0, q265, 0, q267, q269, q271, q273, 0, 0, q275, 0, q277, 0, q279, q281, q283, q285, q287, 0, q289, q291, q293, 0, q295, q297, q299, q301, q303, 0, q305, q307, q309, q311]) 6), .inl (cZ, 768, (.inl (fun _ => 0)))), (((pick [0, q1, 0, 0, q3, q5, q7, 0, q9, q11, q13, q15, q17, q19, q21, 0, 0, q24, q26, 0, 0, q28, q30, q32, q34, q36, 0, q38, q40, 0, 0, q42, q44, q46, 0, q48, q50, q52, q54, 0, 0, 0, 0, 0, 0, 0, 0, 0, 0, 0, q56, q58, 0, 0, q60, 0, 0, 0, 0, 0, q62, q64, q66, q68, q70, q72, q74, q76, q78, q80, q82, q84, q86, q88, q90, q92, q94, q96, q98, q100, q102, q104, q106, q108, q110, q112, q114, q116, q118, q120, q122, 0, 0, 0, q124, q126, q128, 0, q130, q132, q134, q136, 0, q138, q140, q142, 0, 0, 0, 0, 0, q144, q146, q148, q150, q152, q154, q156, q158, q160, 0, q162, 0, q164, 0, q166, q168, q170, 0, 0, q172, q174, q176, q244, q257, 0, 0, 0, q263, 0, q265, 0, q267, q269, q271, q273, 0, 0, q275, 0, q277, 0, q279, q281, q283, q285, q287, 0, q289, q291, q293, 0, q295, q297, q299, q301, q303, 0, q305, q307, q309, q311]) 168), .inl (cI, 100, (.inl (fun _ => 0)))), (((pick [0, q1, 0, 0, q3, q5, q7, 0, q9, q11, q13, q15, q17, q19, q21, 0, 0, q24, q26, 0, 0, q28, q30, q32, q34, q36, 0, q38, q40, 0, 0, q42, q44, q46, 0, q48, q50, q52, q54, 0, 0, 0, 0, 0, 0, 0, 0, 0, 0, 0, q56, q58, 0, 0, q60, 0, 0, 0, 0, 0, q62, q64, q66, q68, q70, q72, q74, q76, q78, q80, q82, q84, q86, q88, q90, q92, q94, q96, q98, q100, q102, q104, q106, q108, q110, q112, q114, q116, q118, q120, q122, 0, 0, 0, q124, q126, q128, 0, q130, q132, q134, q136, 0, q138, q140, q142, 0, 0, 0, 0, 0, q144, q146, q148, q150, q152, q154, q156, q158, q160, 0, q162, 0, q164, 0, q166, q168, q170, 0, 0, q172, q174, q176, q244, q257, 0, 0, 0, q263, 0, q265, 0, q267, q269, q271, q273, 0, 0, q275, 0, q277, 0, q279, q281, q283, q285, q287, 0, q289, q291, q293, 0, q295, q297, q299, q301, q303, 0, q305, q307, q309, q311]) 169), .inl (cI, 100, (.inl (fun _ => 0)))), (((pick [0, q1, 0, 0, q3, q5, q7, 0, q9, q11, q13, q15, q17, q19, q21, 0, 0, q24, q26, 0, 0, q28, q30, q32, q34, q36, 0, q38, q40, 0, 0, q42, q44, q46, 0, q48, q50, q52, q54, 0, 0, 0, 0, 0, 0, 0, 0, 0, 0, 0, q56, q58, 0, 0, q60, 0, 0, 0, 0, 0, q62, q64, q66, q68, q70, q72, q74, q76, q78, q80, q82, q84, q86, q88, q90, q92, q94, q96, q98, q100, q102, q104, q106, q108, q110, q112, q114, q116, q118, q120, q122, 0, 0, 0, q124, q126, q128, 0, q130, q132, q134, q136, 0, q138, q140, q142, 0, 0, 0, 0, 0, q144, q146, q148, q150, q152, q154, q156, q158, q160, 0, q162, 0, q164, 0, q166, q168, q170, 0, 0, q172, q174, q176, q244, q257, 0, 0, 0, q263, 0, q265, 0, q267, q269, q271, q273, 0, 0, q275, 0, q277, 0, q279, q281, q283, q285, q287, 0, q289, q291, q293, 0, q295, q297, q299, q301, q303, 0, q305, q307, q309, q311]) 170), .inl (cI, 100, (.inl (fun _ => 0)))), (((pick [0, q1, 0, 0, q3, q5, q7, 0, q9, q11, q13, q15, q17, q19, q21, 0, 0, q24, q26, 0, 0, q28, q30, q32, q34, q36, 0, q38, q40, 0, 0, q42, q44, q46, 0, q48, q50, q52, q54, 0, 0, 0, 0, 0, 0, 0, 0, 0, 0, 0, q56, q58, 0, 0, q60, 0, 0, 0, 0, 0, q62, q64, q66, q68, q70, q72, q74, q76, q78, q80, q82, q84, q86, q88, q90, q92, q94, q96, q98, q100, q102, q104, q106, q108, q110, q112, q114, q116, q118, q120, q122, 0, 0, 0, q124, q126, q128, 0, q130, q132, q134, q136, 0, q138, q140, q142, 0, 0, 0, 0, 0, q144, q146, q148, q150, q152, q154, q156, q158, q160, 0, q162, 0, q164, 0, q166, q168, q170, 0, 0, q172, q174, q176, q244, q257, 0, 0, 0, q263, 0, q265, 0, q267, q269, q271, q273, 0, 0, q275, 0, q277, 0, q279, q281, q283, q285, q287, 0, q289, q291, q293, 0, q295, q297, q299, q301, q303, 0, q305, q307, q309, q311]) 171), .inl (cJ, 100, (.inr (.inl (fun _ => 0)))))]) [0, 1, 2, 3, 4, 5, 6, 7, 8] rfl
  have hD9 := hD.sub (ws' := [(h0, .inr (12, fsM (pick [0, q1, 0, 0, q3, q5, q7, 0, q9, q11, q13, q15, q17, q19, q21, 0, 0, q24, q26, 0, 0, q28, q30, q32, q34, q36, 0, q38, q40, 0, 0, q42, q44, q46, 0, q48, q50, q52, q54, 0, 0, 0, 0, 0, 0, 0, 0, 0, 0, 0, q56, q58, 0, 0, q60, 0, 0, 0, 0, 0, q62, q64, q66, q68, q70, q72, q74, q76, q78, q80, q82, q84, q86, q88, q90, q92, q94, q96, q98, q100, q102, q104, q106, q108, q110, q112, q114, q116, q118, q120, q122, 0, 0, 0, q124, q126, q128, 0, q130, q132, q134, q136, 0, q138, q140, q142, 0, 0, 0, 0, 0, q144, q146, q148, q150, q152, q154, q156, q158, q160, 0, q162, 0, q164, 0, q166, q168, q170, 0, 0, q172, q174, q176, q244, q257, 0, 0, 0, q263, 0, q265, 0, q267, q269, q271, q273, 0, 0, q275, 0, q277, 0, q279, q281, q283, q285, q287, 0, q289, q291, q293, 0, q295, q297, q299, q301, q303, 0, q305, q307, q309, q311]))), (((pick [0, q1, 0, 0, q3, q5, q7, 0, q9, q11, q13, q15, q17, q19, q21, 0, 0, q24, q26, 0, 0, q28, q30, q32, q34, q36, 0, q38, q40, 0, 0, q42, q44, q46, 0, q48, q50, q52, q54, 0, 0, 0, 0, 0, 0, 0, 0, 0, 0, 0, q56, q58, 0, 0, q60, 0, 0, 0, 0, 0, q62, q64, q66, q68, q70, q72, q74, q76, q78, q80, q82, q84, q86, q88, q90, q92, q94, q96, q98, q100, q102, q104, q106, q108, q110, q112, q114, q116, q118, q120, q122, 0, 0, 0, q124, q126, q128, 0, q130, q132, q134, q136, 0, q138, q140, q142, 0, 0, 0, 0, 0, q144, q146, q148, q150, q152, q154, q156, q158, q160, 0, q162, 0, q164, 0, q166, q168, q170, 0, 0, q172, q174, q176, q244, q257, 0, 0, 0, q263, 0, q265, 0, q267, q269, q271, q273, 0, 0, q275, 0, q277, 0, q279, q281, q283, q285, q287, 0, q289, q291, q293, 0, q295, q297, q299, q301, q303, 0, q305, q307, q309, q311]) 1), .inl (cI, 4000, (.inl (fun _ => 0)))), (((pick [0, q1, 0, 0, q3, q5, q7, 0, q9, q11, q13, q15, q17, q19, q21, 0, 0, q24, q26, 0, 0, q28, q30, q32, q34, q36, 0, q38, q40, 0, 0, q42, q44, q46, 0, q48, q50, q52, q54, 0, 0, 0, 0, 0, 0, 0, 0, 0, 0, 0, q56, q58, 0, 0, q60, 0, 0, 0, 0, 0, q62, q64, q66, q68, q70, q72, q74, q76, q78, q80, q82, q84, q86, q88, q90, q92, q94, q96, q98, q100, q102, q104, q106, q108, q110, q112, q114, q116, q118, q120, q122, 0, 0, 0, q124, q126, q128, 0, q130, q132, q134, q136, 0, q138, q140, q142, 0, 0, 0, 0, 0, q144, q146, q148, q150, q152, q154, q156, q158, q160, 0, q162, 0, q164, 0, q166, q168, q170, 0, 0, q172, q174, q176, q244, q257, 0, 0, 0, q263, 0, q265, 0, q267, q269, q271, q273, 0, 0, q275, 0, q277, 0, q279, q281, q283, q285, q287, 0, q289, q291, q293, 0, q295, q297, q299, q301, q303, 0, q305, q307, q309, q311]) 4), .inl (cI, 6, (.inl (fun _ => 0)))), (((pick [0, q1, 0, 0, q3, q5, q7, 0, q9, q11, q13, q15, q17, q19, q21, 0, 0, q24, q26, 0, 0, q28, q30, q32, q34, q36, 0, q38, q40, 0, 0, q42, q44, q46, 0, q48, q50, q52, q54, 0, 0, 0, 0, 0, 0, 0, 0, 0, 0, 0, q56, q58, 0, 0, q60, 0, 0, 0, 0, 0, q62, q64, q66, q68, q70, q72, q74, q76, q78, q80, q82, q84, q86, q88, q90, q92, q94, q96, q98, q100, q102, q104, q106, q108, q110, q112, q114, q116, q118, q120, q122, 0, 0, 0, q124, q126, q128, 0, q130, q132, q134, q136, 0, q138, q140, q142, 0, 0, 0, 0, 0, q144, q146, q148, q150, q152, q154, q156, q158, q160, 0, q162, 0, q164, 0, q166, q168, q170, 0, 0, q172, q174, q176, q244, q257, 0, 0, 0, q263, 0, q265, 0, q267, q269, q271, q273, 0, 0, q275, 0, q277, 0, q279, q281, q283, q285, q287, 0, q289, q291, q293, 0, q295, q297, q299, q301, q303, 0, q305, q307, q309, q311]) 5), .inl (cI, 49152, (.inl (fun _ => 0)))), (((pick [0, q1, 0, 0, q3, q5, q7, 0, q9, q11, q13, q15, q17, q19, q21, 0, 0, q24, q26, 0, 0, q28, q30, q32, q34, q36, 0, q38, q40, 0, 0, q42, q44, q46, 0, q48, q50, q52, q54, 0, 0, 0, 0, 0, 0, 0, 0, 0, 0, 0, q56, q58, 0, 0, q60, 0, 0, 0, 0, 0, q62, q64, q66, q68, q70, q72, q74, q76, q78, q80, q82, q84, q86, q88, q90, q92, q94, q96, q98, q100, q102, q104, q106, q108, q110, q112, q114, q116, q118, q120, q122, 0, 0, 0, q124, q126, q128, 0, q130, q132, q134, q136, 0, q138, q140, q142, 0, 0, 0, 0, 0, q144, q146, q148, q150, q152, q154, q156, q158, q160, 0, q162, 0, q164, 0, q166, q168, q170, 0, 0, q172, q174, q176, q244, q257, 0, 0, 0, q263, 0, q265, 0, q267, q269, q271, q273, 0, 0, q275, 0, q277, 0, q279, q281, q283, q285, q287, 0, q289, q291, q293, 0, q295, q297, q299, q301, q303, 0, q305, q307, q309, q311]) 6), .inl (cZ, 768, (.inl (fun _ => 0)))), (((pick [0, q1, 0, 0, q3, q5, q7, 0, q9, q11, q13, q15, q17, q19, q21, 0, 0, q24, q26, 0, 0, q28, q30, q32, q34, q36, 0, q38, q40, 0, 0, q42, q44, q46, 0, q48, q50, q52, q54, 0, 0, 0, 0, 0, 0, 0, 0, 0, 0, 0, q56, q58, 0, 0, q60, 0, 0, 0, 0, 0, q62, q64, q66, q68, q70, q72, q74, q76, q78, q80, q82, q84, q86, q88, q90, q92, q94, q96, q98, q100, q102, q104, q106, q108, q110, q112, q114, q116, q118, q120, q122, 0, 0, 0, q124, q126, q128, 0, q130, q132, q134, q136, 0, q138, q140, q142, 0, 0, 0, 0, 0, q144, q146, q148, q150, q152, q154, q156, q158, q160, 0, q162, 0, q164, 0, q166, q168, q170, 0, 0, q172, q174, q176, q244, q257, 0, 0, 0, q263, 0, q265, 0, q267, q269, q271, q273, 0, 0, q275, 0, q277, 0, q279, q281, q283, q285, q287, 0, q289, q291, q293, 0, q295, q297, q299, q301, q303, 0, q305, q307, q309, q311]) 168), .inl (cI, 100, (.inl (fun _ => 0)))), (((pick [0, q1, 0, 0, q3, q5, q7, 0, q9, q11, q13, q15, q17, q19, q21, 0, 0, q24, q26, 0, 0, q28, q30, q32, q34, q36, 0, q38, q40, 0, 0, q42, q44, q46, 0, q48, q50, q52, q54, 0, 0, 0, 0, 0, 0, 0, 0, 0, 0, 0, q56, q58, 0, 0, q60, 0, 0, 0, 0, 0, q62, q64, q66, q68, q70, q72, q74, q76, q78, q80, q82, q84, q86, q88, q90, q92, q94, q96, q98, q100, q102, q104, q106, q108, q110, q112, q114, q116, q118, q120, q122, 0, 0, 0, q124, q126, q128, 0, q130, q132, q134, q136, 0, q138, q140, q142, 0, 0, 0, 0, 0, q144, q146, q148, q150, q152, q154, q156, q158, q160, 0, q162, 0, q164, 0, q166, q168, q170, 0, 0, q172, q174, q176, q244, q257, 0, 0, 0, q263, 0, q265, 0, q267, q269, q271, q273, 0, 0, q275, 0, q277, 0, q279, q281, q283, q285, q287, 0, q289, q291, q293, 0, q295, q297, q299, q301, q303, 0, q305, q307, q309, q311]) 169), .inl (cI, 100, (.inl (fun _ => 0)))), (((pick [0, q1, 0, 0, q3, q5, q7, 0, q9, q11, q13, q15, q17, q19, q21, 0, 0, q24, q26, 0, 0, q28, q30, q32, q34, q36, 0, q38, q40, 0, 0, q42, q44, q46, 0, q48, q50, q52, q54, 0, 0, 0, 0, 0, 0, 0, 0, 0, 0, 0, q56, q58, 0, 0, q60, 0, 0, 0, 0, 0, q62, q64, q66, q68, q70, q72, q74, q76, q78, q80, q82, q84, q86, q88, q90, q92, q94, q96, q98, q100, q102, q104, q106, q108, q110, q112, q114, q116, q118, q120, q122, 0, 0, 0, q124, q126, q128, 0, q130, q132, q134, q136, 0, q138, q140, q142, 0, 0, 0, 0, 0, q144, q146, q148, q150, q152, q154, q156, q158, q160, 0, q162, 0, q164, 0, q166, q168, q170, 0, 0, q172, q174, q176, q244, q257, 0, 0, 0, q263, 0, q265, 0, q267, q269, q271, q273, 0, 0, q275, 0, q277, 0, q279, q281, q283, q285, q287, 0, q289, q291, q293, 0, q295, q297, q299, q301, q303, 0, q305, q307, q309, q311]) 170), .inl (cI, 100, (.inl (fun _ => 0)))), (((pick [0, q1, 0, 0, q3, q5, q7, 0, q9, q11, q13, q15, q17, q19, q21, 0, 0, q24, q26, 0, 0, q28, q30, q32, q34, q36, 0, q38, q40, 0, 0, q42, q44, q46, 0, q48, q50, q52, q54, 0, 0, 0, 0, 0, 0, 0, 0, 0, 0, 0, q56, q58, 0, 0, q60, 0, 0, 0, 0, 0, q62, q64, q66, q68, q70, q72, q74, q76, q78, q80, q82, q84, q86, q88, q90, q92, q94, q96, q98, q100, q102, q104, q106, q108, q110, q112, q114, q116, q118, q120, q122, 0, 0, 0, q124, q126, q128, 0, q130, q132, q134, q136, 0, q138, q140, q142, 0, 0, 0, 0, 0, q144, q146, q148, q150, q152, q154, q156, q158, q160, 0, q162, 0, q164, 0, q166, q168, q170, 0, 0, q172, q174, q176, q244, q257, 0, 0, 0, q263, 0, q265, 0, q267, q269, q271, q273, 0, 0, q275, 0, q277, 0, q279, q281, q283, q285, q287, 0, q289, q291, q293, 0, q295, q297, q299, q301, q303, 0, q305, q307, q309, q311]) 171), .inl (cJ, 100, (.inr (.inl (fun _ => 0)))))]) [0, 1, 2, 3, 4, 5, 6, 7, 8] (by decide) rfl
  exact W.vret hx hb hr (fun t ht hW => ⟨⟨(pick [0, q1, 0, 0, q3, q5, q7, 0, q9, q11, q13, q15, q17, q19, q21, 0, 0, q24, q26, 0, 0, q28, q30, q32, q34, q36, 0, q38, q40, 0, 0, q42, q44, q46, 0, q48, q50, q52, q54, 0, 0, 0, 0, 0, 0, 0, 0, 0, 0, 0, q56, q58, 0, 0, q60, 0, 0, 0, 0, 0, q62, q64, q66, q68, q70, q72, q74, q76, q78, q80, q82, q84, q86, q88, q90, q92, q94, q96, q98, q100, q102, q104, q106, q108, q110, q112, q114, q116, q118, q120, q122, 0, 0, 0, q124, q126, q128, 0, q130, q132, q134, q136, 0, q138, q140, q142, 0, 0, 0, 0, 0, q144, q146, q148, q150, q152, q154, q156, q158, q160, 0, q162, 0, q164, 0, q166, q168, q170, 0, 0, q172, q174, q176, q244, q257, 0, 0, 0, q263, 0, q265, 0, q267, q269, q271, q273, 0, 0, q275, 0, q277, 0, q279, q281, q283, q285, q287, 0, q289, q291, q293, 0, q295, q297, q299, q301, q303, 0, q305, q307, q309, q311]), rfl, trivial, by rw [ht]; exact hP9, hD9⟩, hS.F ht⟩) hS.2.2 dX12_init_1461
