set_option maxHeartbeats 40000000 in
set_option maxRecDepth 100000 in
theorem law_case_38 {p : Program} {e : Env} {s : State} {m : MethodId} {below : List Frame} {meth : Method} {c : Code} (l : Launch) {b L : Nat} {xs : Nat → Int32} (C0 : lw_At p s m meth c b L xs) {A : Nat → Prop} (hA : ∀ q : Nat, s.heap.size ≤ q → A q) (hAl : ∀ q : Nat, A q → s.heap.size ≤ q) (hL : L = 5) (dC : Nat → ClassId) (dI : Nat → Nat → Nat) (cI cB cZ cJ cC cP cV cT cO : ClassId) (x0 m0 : Nat) (g tf tq tt gm : Nat → Nat) (hK : va_K (dC, dI) vwCl [(cI, .int), (cB, .byte), (cZ, .boolean), (cJ, .long), (cC, .char), (cP, .object "DiskEvidence$Picture"), (cV, .object "DiskEvidence$Volume"), (cT, .object "DiskEvidence$Tree"), (cO, .object "DiskEvidence$Opening")] s) {H : Heap} {locs : List Loc} (hP : va_P (dC, dI) vwCl [(x0, .inr (11, (fsX g))), ((g 0), .inl (cB, 4000, (.inl (fun _ => 0)))), ((g 3), .inl (cP, 6, (.inr (.inr (.inr (.inr (fun _ => none))))))), ((g 14), .inr (0, (fs0 tf))), ((g 15), .inr (6, (fs6 tq))), ((g 16), .inr (8, (fs8 tt))), ((g 17), .inl (cI, 300, (.inl (fun _ => 0)))), ((g 18), .inl (cJ, 100, (.inr (.inl (fun _ => 0))))), (m0, .inr (12, (fsM gm))), ((gm 1), .inl (cI, 4000, (.inl (fun _ => 0)))), ((gm 4), .inl (cI, 6, (.inl (fun _ => 0)))), ((gm 5), .inl (cI, 49152, (.inl (fun _ => 0)))), ((gm 6), .inl (cZ, 768, (.inl (fun _ => 0)))), ((gm 168), .inl (cI, 100, (.inl (fun _ => 0)))), ((gm 169), .inl (cI, 100, (.inl (fun _ => 0)))), ((gm 170), .inl (cI, 100, (.inl (fun _ => 0)))), ((gm 171), .inl (cJ, 100, (.inr (.inl (fun _ => 0)))))] H) (hD : va_D A [(x0, .inr (11, (fsX g))), ((g 0), .inl (cB, 4000, (.inl (fun _ => 0)))), ((g 3), .inl (cP, 6, (.inr (.inr (.inr (.inr (fun _ => none))))))), ((g 14), .inr (0, (fs0 tf))), ((g 15), .inr (6, (fs6 tq))), ((g 16), .inr (8, (fs8 tt))), ((g 17), .inl (cI, 300, (.inl (fun _ => 0)))), ((g 18), .inl (cJ, 100, (.inr (.inl (fun _ => 0))))), (m0, .inr (12, (fsM gm))), ((gm 1), .inl (cI, 4000, (.inl (fun _ => 0)))), ((gm 4), .inl (cI, 6, (.inl (fun _ => 0)))), ((gm 5), .inl (cI, 49152, (.inl (fun _ => 0)))), ((gm 6), .inl (cZ, 768, (.inl (fun _ => 0)))), ((gm 168), .inl (cI, 100, (.inl (fun _ => 0)))), ((gm 169), .inl (cI, 100, (.inl (fun _ => 0)))), ((gm 170), .inl (cI, 100, (.inl (fun _ => 0)))), ((gm 171), .inl (cJ, 100, (.inr (.inl (fun _ => 0)))))]) (hS : va_S A s.heap H locs) (ls : Array Slot) (hl : lv_has ls 4 [(3, .int 0), (2, .ref m0), (1, .ref x0), (0, .ref b)]) : W p l e room_1 s m #[Value.ref b] below meth c H locs 147 815844 (lw_Z below #[Value.ref b] s) (F0 m 1562 ls []) := by
  subst hL
  obtain ⟨hx, hb, hr, hml, hown, hts, hX, hbl, hlocks, hgv⟩ := id C0
  have hown : s.vm.findClass RL = some m.cls := hown
  have hbA : ¬ A b := fun h => absurd (hAl b h) (Nat.not_le.mpr hbl)
  refine lv_aload_n hx hb dL_law_1562 rfl (lv_at hl 2 rfl) ?_
  refine lv_aload_n hx hb dL_law_1563 rfl (lv_at hl 3 rfl) ?_
  refine lv_iload_n hx hb dL_law_1564 rfl (lv_at hl 0 rfl) ?_
  refine lv_iconst (v := 1) hx hb dL_law_1565 (by decide) ?_
  refine lv_iadd hx hb dL_law_1566 ?_
  refine lv_topi (fun f_1 ef_1 => ?_)
  obtain rfl : (1 : Int32) = f_1 := (ef_1.trans (by decide)).symm
  refine va_sld hx hb hX hbl hbA hS (vp_in_nI (n := 1) (N := 5) (by decide) (by decide)) dL_law_1567 ?_
  refine lv_aload_n hx hb dL_law_1568 rfl (lv_at hl 3 rfl) ?_
  refine lv_iload_n hx hb dL_law_1569 rfl (lv_at hl 0 rfl) ?_
  refine lv_iconst (v := 2) hx hb dL_law_1570 (by decide) ?_
  refine lv_iadd hx hb dL_law_1571 ?_
  refine lv_topi (fun f_2 ef_2 => ?_)
  obtain rfl : (2 : Int32) = f_2 := (ef_2.trans (by decide)).symm
  refine va_sld hx hb hX hbl hbA hS (vp_in_nI (n := 2) (N := 5) (by decide) (by decide)) dL_law_1572 ?_
  have hPc := hP.sub (ws' := [(x0, .inr (11, (fsX g))), ((g 14), .inr (0, (fs0 tf)))]) [0, 3] rfl
  have hDc := hD.sub (ws' := [(x0, .inr (11, (fsX g))), ((g 14), .inr (0, (fs0 tf)))]) [0, 3] (by decide) rfl
  have hKc := hK
  refine vp_callSi (va_Run.run (va_runV (As := [.int (xs (1 : Int32).toNatClampNeg), .int (xs (2 : Int32).toNatClampNeg)]) (rest := []) ⟨hx, hb, hml, hown, hts⟩ (c_X11_hit l dC dI cI cB cZ cJ cC cP cV cT cO H.size x0 g tf (xs (1 : Int32).toNatClampNeg) (xs (2 : Int32).toNatClampNeg)) (cwV 2 hts gq_L_law_X11_hit_175 rfl rfl rfl (by decide +kernel) ⟨Nat.le_of_ble_eq_true rfl, Nat.le_of_ble_eq_true rfl⟩) ⟨fun a U g mk q => by obtain ⟨q0, q1, qP, qK, qD⟩ := q; exact ⟨q0, q1, qP, va_K.moved (u := U) (U := U.calling g mk a) (Vm.Alike.refl U.vm) qK, qD⟩, va_recv hKc hPc (ci := 11) (q0 := 0) rfl rfl, fun U hU hW => ⟨rfl, by rw [hU], by rw [hU]; exact hPc, va_K.moved hW.alike hKc, hDc.weaken (fun _ _ _ _ => trivial)⟩⟩ rfl rfl hl.1 rfl (lv_room (Nat.le_of_ble_eq_true rfl)) dL_law_1573 ⟨Nat.le_of_ble_eq_true rfl, Nat.le_of_ble_eq_true rfl⟩)) (fun r_3 hr_3 => ?_)
  obtain rfl : r_3 = (-2) := hr_3
  refine lv_aload_n hx hb dL_law_1576 rfl (lv_at hl 1 rfl) ?_
  refine lv_aload_n hx hb dL_law_1577 rfl (lv_at hl 3 rfl) ?_
  refine lv_iload_n hx hb dL_law_1578 rfl (lv_at hl 0 rfl) ?_
  refine lv_iconst (v := 1) hx hb dL_law_1579 (by decide) ?_
  refine lv_iadd hx hb dL_law_1580 ?_
  refine lv_topi (fun f_4 ef_4 => ?_)
  obtain rfl : (1 : Int32) = f_4 := (ef_4.trans (by decide)).symm
  refine va_sld hx hb hX hbl hbA hS (vp_in_nI (n := 1) (N := 5) (by decide) (by decide)) dL_law_1581 ?_
  refine lv_aload_n hx hb dL_law_1582 rfl (lv_at hl 3 rfl) ?_
  refine lv_iload_n hx hb dL_law_1583 rfl (lv_at hl 0 rfl) ?_
  refine lv_iconst (v := 2) hx hb dL_law_1584 (by decide) ?_
  refine lv_iadd hx hb dL_law_1585 ?_
  refine lv_topi (fun f_5 ef_5 => ?_)
  obtain rfl : (2 : Int32) = f_5 := (ef_5.trans (by decide)).symm
  refine va_sld hx hb hX hbl hbA hS (vp_in_nI (n := 2) (N := 5) (by decide) (by decide)) dL_law_1586 ?_
  have hPc := hP.sub (ws' := [(m0, .inr (12, (fsM gm)))]) [8] rfl
  have hDc := hD.sub (ws' := [(m0, .inr (12, (fsM gm)))]) [8] (by decide) rfl
  have hKc := hK
  refine vp_callSi (va_Run.run (va_runV (As := [.int (xs (1 : Int32).toNatClampNeg), .int (xs (2 : Int32).toNatClampNeg)]) (rest := [.int (-2)]) ⟨hx, hb, hml, hown, hts⟩ (c_X12_hit l dC dI cI cB cZ cJ cC cP cV cT cO H.size m0 gm (xs (1 : Int32).toNatClampNeg) (xs (2 : Int32).toNatClampNeg)) (cwV 2 hts gq_L_law_X12_hit_178 rfl rfl rfl (by decide +kernel) ⟨Nat.le_of_ble_eq_true rfl, Nat.le_of_ble_eq_true rfl⟩) ⟨fun a U g mk q => by obtain ⟨q0, q1, qP, qK, qD⟩ := q; exact ⟨q0, q1, qP, va_K.moved (u := U) (U := U.calling g mk a) (Vm.Alike.refl U.vm) qK, qD⟩, va_recv hKc hPc (ci := 12) (q0 := 0) rfl rfl, fun U hU hW => ⟨rfl, by rw [hU], by rw [hU]; exact hPc, va_K.moved hW.alike hKc, hDc.weaken (fun _ _ _ _ => trivial)⟩⟩ rfl rfl hl.1 rfl (lv_room (Nat.le_of_ble_eq_true rfl)) dL_law_1587 ⟨Nat.le_of_ble_eq_true rfl, Nat.le_of_ble_eq_true rfl⟩)) (fun r_6 hr_6 => ?_)
  obtain rfl : r_6 = (-2) := hr_6
  refine lv_icmp_eq (tgt := 1979) hx hb dL_law_1590 (by decide) (fun _ => ?_) (fun c_7 => absurd (by decide) c_7)
  exact law_tail l C0 hA hAl rfl hS (Nat.le_of_ble_eq_true rfl) (Nat.le_of_ble_eq_true rfl) x0 m0 ls (lv_sub hl [0, 1, 2, 3] rfl)
set_option maxHeartbeats 40000000 in
set_option maxRecDepth 100000 in
theorem law_case_39 {p : Program} {e : Env} {s : State} {m : MethodId} {below : List Frame} {meth : Method} {c : Code} (l : Launch) {b L : Nat} {xs : Nat → Int32} (C0 : lw_At p s m meth c b L xs) {A : Nat → Prop} (hA : ∀ q : Nat, s.heap.size ≤ q → A q) (hAl : ∀ q : Nat, A q → s.heap.size ≤ q) (hL : L = 5) (dC : Nat → ClassId) (dI : Nat → Nat → Nat) (cI cB cZ cJ cC cP cV cT cO : ClassId) (x0 m0 : Nat) (g tf tq tt gm : Nat → Nat) (hK : va_K (dC, dI) vwCl [(cI, .int), (cB, .byte), (cZ, .boolean), (cJ, .long), (cC, .char), (cP, .object "DiskEvidence$Picture"), (cV, .object "DiskEvidence$Volume"), (cT, .object "DiskEvidence$Tree"), (cO, .object "DiskEvidence$Opening")] s) {H : Heap} {locs : List Loc} (hP : va_P (dC, dI) vwCl [(x0, .inr (11, (fsX g))), ((g 0), .inl (cB, 4000, (.inl (fun _ => 0)))), ((g 3), .inl (cP, 6, (.inr (.inr (.inr (.inr (fun _ => none))))))), ((g 14), .inr (0, (fs0 tf))), ((g 15), .inr (6, (fs6 tq))), ((g 16), .inr (8, (fs8 tt))), ((g 17), .inl (cI, 300, (.inl (fun _ => 0)))), ((g 18), .inl (cJ, 100, (.inr (.inl (fun _ => 0))))), (m0, .inr (12, (fsM gm))), ((gm 1), .inl (cI, 4000, (.inl (fun _ => 0)))), ((gm 4), .inl (cI, 6, (.inl (fun _ => 0)))), ((gm 5), .inl (cI, 49152, (.inl (fun _ => 0)))), ((gm 6), .inl (cZ, 768, (.inl (fun _ => 0)))), ((gm 168), .inl (cI, 100, (.inl (fun _ => 0)))), ((gm 169), .inl (cI, 100, (.inl (fun _ => 0)))), ((gm 170), .inl (cI, 100, (.inl (fun _ => 0)))), ((gm 171), .inl (cJ, 100, (.inr (.inl (fun _ => 0)))))] H) (hD : va_D A [(x0, .inr (11, (fsX g))), ((g 0), .inl (cB, 4000, (.inl (fun _ => 0)))), ((g 3), .inl (cP, 6, (.inr (.inr (.inr (.inr (fun _ => none))))))), ((g 14), .inr (0, (fs0 tf))), ((g 15), .inr (6, (fs6 tq))), ((g 16), .inr (8, (fs8 tt))), ((g 17), .inl (cI, 300, (.inl (fun _ => 0)))), ((g 18), .inl (cJ, 100, (.inr (.inl (fun _ => 0))))), (m0, .inr (12, (fsM gm))), ((gm 1), .inl (cI, 4000, (.inl (fun _ => 0)))), ((gm 4), .inl (cI, 6, (.inl (fun _ => 0)))), ((gm 5), .inl (cI, 49152, (.inl (fun _ => 0)))), ((gm 6), .inl (cZ, 768, (.inl (fun _ => 0)))), ((gm 168), .inl (cI, 100, (.inl (fun _ => 0)))), ((gm 169), .inl (cI, 100, (.inl (fun _ => 0)))), ((gm 170), .inl (cI, 100, (.inl (fun _ => 0)))), ((gm 171), .inl (cJ, 100, (.inr (.inl (fun _ => 0)))))]) (hS : va_S A s.heap H locs) (ls : Array Slot) (hl : lv_has ls 4 [(3, .int 0), (2, .ref m0), (1, .ref x0), (0, .ref b)]) : W p l e room_1 s m #[Value.ref b] below meth c H locs 147 815844 (lw_Z below #[Value.ref b] s) (F0 m 1595 ls []) := by
  subst hL
  obtain ⟨hx, hb, hr, hml, hown, hts, hX, hbl, hlocks, hgv⟩ := id C0
  have hown : s.vm.findClass RL = some m.cls := hown
  have hbA : ¬ A b := fun h => absurd (hAl b h) (Nat.not_le.mpr hbl)
  refine lv_aload_n hx hb dL_law_1595 rfl (lv_at hl 2 rfl) ?_
  refine lv_aload_n hx hb dL_law_1596 rfl (lv_at hl 3 rfl) ?_
  refine lv_iload_n hx hb dL_law_1597 rfl (lv_at hl 0 rfl) ?_
  refine lv_iconst (v := 1) hx hb dL_law_1598 (by decide) ?_
  refine lv_iadd hx hb dL_law_1599 ?_
  refine lv_topi (fun f_1 ef_1 => ?_)
  obtain rfl : (1 : Int32) = f_1 := (ef_1.trans (by decide)).symm
  refine va_sld hx hb hX hbl hbA hS (vp_in_nI (n := 1) (N := 5) (by decide) (by decide)) dL_law_1600 ?_
  have hPc := hP.sub (ws' := [(x0, .inr (11, (fsX g)))]) [0] rfl
  have hDc := hD.sub (ws' := [(x0, .inr (11, (fsX g)))]) [0] (by decide) rfl
  have hKc := hK
  refine vp_callSi (va_Run.run (va_runV (As := [.int (xs (1 : Int32).toNatClampNeg)]) (rest := []) ⟨hx, hb, hml, hown, hts⟩ (c_X11_question l dC dI cI cB cZ cJ cC cP cV cT cO H.size x0 g (xs (1 : Int32).toNatClampNeg)) (cwV 1 hts gq_L_law_X11_question_179 rfl rfl rfl (by decide +kernel) ⟨Nat.le_of_ble_eq_true rfl, Nat.le_of_ble_eq_true rfl⟩) ⟨fun a U g mk q => by obtain ⟨q0, q1, qP, qK, qD⟩ := q; exact ⟨q0, q1, qP, va_K.moved (u := U) (U := U.calling g mk a) (Vm.Alike.refl U.vm) qK, qD⟩, va_recv hKc hPc (ci := 11) (q0 := 0) rfl rfl, fun U hU hW => ⟨rfl, by rw [hU], by rw [hU]; exact hPc, va_K.moved hW.alike hKc, hDc.weaken (fun _ _ _ _ => trivial)⟩⟩ rfl rfl hl.1 rfl (lv_room (Nat.le_of_ble_eq_true rfl)) dL_law_1601 ⟨Nat.le_of_ble_eq_true rfl, Nat.le_of_ble_eq_true rfl⟩)) (fun r_2 hr_2 => ?_)
  obtain rfl : r_2 = (-2) := hr_2
  refine lv_aload_n hx hb dL_law_1604 rfl (lv_at hl 1 rfl) ?_
  refine lv_aload_n hx hb dL_law_1605 rfl (lv_at hl 3 rfl) ?_
  refine lv_iload_n hx hb dL_law_1606 rfl (lv_at hl 0 rfl) ?_
  refine lv_iconst (v := 1) hx hb dL_law_1607 (by decide) ?_
  refine lv_iadd hx hb dL_law_1608 ?_
  refine lv_topi (fun f_3 ef_3 => ?_)
  obtain rfl : (1 : Int32) = f_3 := (ef_3.trans (by decide)).symm
  refine va_sld hx hb hX hbl hbA hS (vp_in_nI (n := 1) (N := 5) (by decide) (by decide)) dL_law_1609 ?_
  have hPc := hP.sub (ws' := [(m0, .inr (12, (fsM gm)))]) [8] rfl
  have hDc := hD.sub (ws' := [(m0, .inr (12, (fsM gm)))]) [8] (by decide) rfl
  have hKc := hK
  refine vp_callSi (va_Run.run (va_runV (As := [.int (xs (1 : Int32).toNatClampNeg)]) (rest := [.int (-2)]) ⟨hx, hb, hml, hown, hts⟩ (c_X12_question l dC dI cI cB cZ cJ cC cP cV cT cO H.size m0 gm (xs (1 : Int32).toNatClampNeg)) (cwV 1 hts gq_L_law_X12_question_182 rfl rfl rfl (by decide +kernel) ⟨Nat.le_of_ble_eq_true rfl, Nat.le_of_ble_eq_true rfl⟩) ⟨fun a U g mk q => by obtain ⟨q0, q1, qP, qK, qD⟩ := q; exact ⟨q0, q1, qP, va_K.moved (u := U) (U := U.calling g mk a) (Vm.Alike.refl U.vm) qK, qD⟩, va_recv hKc hPc (ci := 12) (q0 := 0) rfl rfl, fun U hU hW => ⟨rfl, by rw [hU], by rw [hU]; exact hPc, va_K.moved hW.alike hKc, hDc.weaken (fun _ _ _ _ => trivial)⟩⟩ rfl rfl hl.1 rfl (lv_room (Nat.le_of_ble_eq_true rfl)) dL_law_1610 ⟨Nat.le_of_ble_eq_true rfl, Nat.le_of_ble_eq_true rfl⟩)) (fun r_4 hr_4 => ?_)
  obtain rfl : r_4 = (-2) := hr_4
  refine lv_icmp_eq (tgt := 1979) hx hb dL_law_1613 (by decide) (fun _ => ?_) (fun c_5 => absurd (by decide) c_5)
  exact law_tail l C0 hA hAl rfl hS (Nat.le_of_ble_eq_true rfl) (Nat.le_of_ble_eq_true rfl) x0 m0 ls (lv_sub hl [0, 1, 2, 3] rfl)
set_option maxHeartbeats 40000000 in
set_option maxRecDepth 100000 in
theorem law_case_40 {p : Program} {e : Env} {s : State} {m : MethodId} {below : List Frame} {meth : Method} {c : Code} (l : Launch) {b L : Nat} {xs : Nat → Int32} (C0 : lw_At p s m meth c b L xs) {A : Nat → Prop} (hA : ∀ q : Nat, s.heap.size ≤ q → A q) (hAl : ∀ q : Nat, A q → s.heap.size ≤ q) (hL : L = 5) (dC : Nat → ClassId) (dI : Nat → Nat → Nat) (cI cB cZ cJ cC cP cV cT cO : ClassId) (x0 m0 : Nat) (g tf tq tt gm : Nat → Nat) (hK : va_K (dC, dI) vwCl [(cI, .int), (cB, .byte), (cZ, .boolean), (cJ, .long), (cC, .char), (cP, .object "DiskEvidence$Picture"), (cV, .object "DiskEvidence$Volume"), (cT, .object "DiskEvidence$Tree"), (cO, .object "DiskEvidence$Opening")] s) {H : Heap} {locs : List Loc} (hP : va_P (dC, dI) vwCl [(x0, .inr (11, (fsX g))), ((g 0), .inl (cB, 4000, (.inl (fun _ => 0)))), ((g 3), .inl (cP, 6, (.inr (.inr (.inr (.inr (fun _ => none))))))), ((g 14), .inr (0, (fs0 tf))), ((g 15), .inr (6, (fs6 tq))), ((g 16), .inr (8, (fs8 tt))), ((g 17), .inl (cI, 300, (.inl (fun _ => 0)))), ((g 18), .inl (cJ, 100, (.inr (.inl (fun _ => 0))))), (m0, .inr (12, (fsM gm))), ((gm 1), .inl (cI, 4000, (.inl (fun _ => 0)))), ((gm 4), .inl (cI, 6, (.inl (fun _ => 0)))), ((gm 5), .inl (cI, 49152, (.inl (fun _ => 0)))), ((gm 6), .inl (cZ, 768, (.inl (fun _ => 0)))), ((gm 168), .inl (cI, 100, (.inl (fun _ => 0)))), ((gm 169), .inl (cI, 100, (.inl (fun _ => 0)))), ((gm 170), .inl (cI, 100, (.inl (fun _ => 0)))), ((gm 171), .inl (cJ, 100, (.inr (.inl (fun _ => 0)))))] H) (hD : va_D A [(x0, .inr (11, (fsX g))), ((g 0), .inl (cB, 4000, (.inl (fun _ => 0)))), ((g 3), .inl (cP, 6, (.inr (.inr (.inr (.inr (fun _ => none))))))), ((g 14), .inr (0, (fs0 tf))), ((g 15), .inr (6, (fs6 tq))), ((g 16), .inr (8, (fs8 tt))), ((g 17), .inl (cI, 300, (.inl (fun _ => 0)))), ((g 18), .inl (cJ, 100, (.inr (.inl (fun _ => 0))))), (m0, .inr (12, (fsM gm))), ((gm 1), .inl (cI, 4000, (.inl (fun _ => 0)))), ((gm 4), .inl (cI, 6, (.inl (fun _ => 0)))), ((gm 5), .inl (cI, 49152, (.inl (fun _ => 0)))), ((gm 6), .inl (cZ, 768, (.inl (fun _ => 0)))), ((gm 168), .inl (cI, 100, (.inl (fun _ => 0)))), ((gm 169), .inl (cI, 100, (.inl (fun _ => 0)))), ((gm 170), .inl (cI, 100, (.inl (fun _ => 0)))), ((gm 171), .inl (cJ, 100, (.inr (.inl (fun _ => 0)))))]) (hS : va_S A s.heap H locs) (ls : Array Slot) (hl : lv_has ls 4 [(3, .int 0), (2, .ref m0), (1, .ref x0), (0, .ref b)]) : W p l e room_1 s m #[Value.ref b] below meth c H locs 147 815844 (lw_Z below #[Value.ref b] s) (F0 m 1618 ls []) := by
  subst hL
  obtain ⟨hx, hb, hr, hml, hown, hts, hX, hbl, hlocks, hgv⟩ := id C0
  have hown : s.vm.findClass RL = some m.cls := hown
  have hbA : ¬ A b := fun h => absurd (hAl b h) (Nat.not_le.mpr hbl)
  refine lv_aload_n hx hb dL_law_1618 rfl (lv_at hl 2 rfl) ?_
  refine lv_aload_n hx hb dL_law_1619 rfl (lv_at hl 3 rfl) ?_
  refine lv_iload_n hx hb dL_law_1620 rfl (lv_at hl 0 rfl) ?_
  refine lv_iconst (v := 1) hx hb dL_law_1621 (by decide) ?_
  refine lv_iadd hx hb dL_law_1622 ?_
  refine lv_topi (fun f_1 ef_1 => ?_)
  obtain rfl : (1 : Int32) = f_1 := (ef_1.trans (by decide)).symm
  refine va_sld hx hb hX hbl hbA hS (vp_in_nI (n := 1) (N := 5) (by decide) (by decide)) dL_law_1623 ?_
  have hPc := hP.sub (ws' := [(x0, .inr (11, (fsX g))), ((g 15), .inr (6, (fs6 tq)))]) [0, 4] rfl
  have hDc := hD.sub (ws' := [(x0, .inr (11, (fsX g))), ((g 15), .inr (6, (fs6 tq)))]) [0, 4] (by decide) rfl
  have hKc := hK
  refine vp_callSi (va_Run.run (va_runV (As := [.int (xs (1 : Int32).toNatClampNeg)]) (rest := []) ⟨hx, hb, hml, hown, hts⟩ (c_X11_row l dC dI cI cB cZ cJ cC cP cV cT cO H.size x0 g tq (xs (1 : Int32).toNatClampNeg)) (cwV 1 hts gq_L_law_X11_row_183 rfl rfl rfl (by decide +kernel) ⟨Nat.le_of_ble_eq_true rfl, Nat.le_of_ble_eq_true rfl⟩) ⟨fun a U g mk q => by obtain ⟨q0, q1, qP, qK, qD⟩ := q; exact ⟨q0, q1, qP, va_K.moved (u := U) (U := U.calling g mk a) (Vm.Alike.refl U.vm) qK, qD⟩, va_recv hKc hPc (ci := 11) (q0 := 0) rfl rfl, fun U hU hW => ⟨rfl, by rw [hU], by rw [hU]; exact hPc, va_K.moved hW.alike hKc, hDc.weaken (fun _ _ _ _ => trivial)⟩⟩ rfl rfl hl.1 rfl (lv_room (Nat.le_of_ble_eq_true rfl)) dL_law_1624 ⟨Nat.le_of_ble_eq_true rfl, Nat.le_of_ble_eq_true rfl⟩)) (fun r_2 hr_2 => ?_)
  obtain rfl : r_2 = (-2) := hr_2
  refine lv_aload_n hx hb dL_law_1627 rfl (lv_at hl 1 rfl) ?_
  refine lv_aload_n hx hb dL_law_1628 rfl (lv_at hl 3 rfl) ?_
  refine lv_iload_n hx hb dL_law_1629 rfl (lv_at hl 0 rfl) ?_
  refine lv_iconst (v := 1) hx hb dL_law_1630 (by decide) ?_
  refine lv_iadd hx hb dL_law_1631 ?_
  refine lv_topi (fun f_3 ef_3 => ?_)
  obtain rfl : (1 : Int32) = f_3 := (ef_3.trans (by decide)).symm
  refine va_sld hx hb hX hbl hbA hS (vp_in_nI (n := 1) (N := 5) (by decide) (by decide)) dL_law_1632 ?_
  have hPc := hP.sub (ws' := [(m0, .inr (12, (fsM gm)))]) [8] rfl
  have hDc := hD.sub (ws' := [(m0, .inr (12, (fsM gm)))]) [8] (by decide) rfl
  have hKc := hK
  refine vp_callSi (va_Run.run (va_runV (As := [.int (xs (1 : Int32).toNatClampNeg)]) (rest := [.int (-2)]) ⟨hx, hb, hml, hown, hts⟩ (c_X12_row l dC dI cI cB cZ cJ cC cP cV cT cO H.size m0 gm (xs (1 : Int32).toNatClampNeg)) (cwV 1 hts gq_L_law_X12_row_186 rfl rfl rfl (by decide +kernel) ⟨Nat.le_of_ble_eq_true rfl, Nat.le_of_ble_eq_true rfl⟩) ⟨fun a U g mk q => by obtain ⟨q0, q1, qP, qK, qD⟩ := q; exact ⟨q0, q1, qP, va_K.moved (u := U) (U := U.calling g mk a) (Vm.Alike.refl U.vm) qK, qD⟩, va_recv hKc hPc (ci := 12) (q0 := 0) rfl rfl, fun U hU hW => ⟨rfl, by rw [hU], by rw [hU]; exact hPc, va_K.moved hW.alike hKc, hDc.weaken (fun _ _ _ _ => trivial)⟩⟩ rfl rfl hl.1 rfl (lv_room (Nat.le_of_ble_eq_true rfl)) dL_law_1633 ⟨Nat.le_of_ble_eq_true rfl, Nat.le_of_ble_eq_true rfl⟩)) (fun r_4 hr_4 => ?_)
  obtain rfl : r_4 = (-2) := hr_4
  refine lv_icmp_eq (tgt := 1979) hx hb dL_law_1636 (by decide) (fun _ => ?_) (fun c_5 => absurd (by decide) c_5)
  exact law_tail l C0 hA hAl rfl hS (Nat.le_of_ble_eq_true rfl) (Nat.le_of_ble_eq_true rfl) x0 m0 ls (lv_sub hl [0, 1, 2, 3] rfl)
set_option maxHeartbeats 40000000 in
set_option maxRecDepth 100000 in
theorem law_case_41 {p : Program} {e : Env} {s : State} {m : MethodId} {below : List Frame} {meth : Method} {c : Code} (l : Launch) {b L : Nat} {xs : Nat → Int32} (C0 : lw_At p s m meth c b L xs) {A : Nat → Prop} (hA : ∀ q : Nat, s.heap.size ≤ q → A q) (hAl : ∀ q : Nat, A q → s.heap.size ≤ q) (hL : L = 5) (dC : Nat → ClassId) (dI : Nat → Nat → Nat) (cI cB cZ cJ cC cP cV cT cO : ClassId) (x0 m0 : Nat) (g tf tq tt gm : Nat → Nat) (hK : va_K (dC, dI) vwCl [(cI, .int), (cB, .byte), (cZ, .boolean), (cJ, .long), (cC, .char), (cP, .object "DiskEvidence$Picture"), (cV, .object "DiskEvidence$Volume"), (cT, .object "DiskEvidence$Tree"), (cO, .object "DiskEvidence$Opening")] s) {H : Heap} {locs : List Loc} (hP : va_P (dC, dI) vwCl [(x0, .inr (11, (fsX g))), ((g 0), .inl (cB, 4000, (.inl (fun _ => 0)))), ((g 3), .inl (cP, 6, (.inr (.inr (.inr (.inr (fun _ => none))))))), ((g 14), .inr (0, (fs0 tf))), ((g 15), .inr (6, (fs6 tq))), ((g 16), .inr (8, (fs8 tt))), ((g 17), .inl (cI, 300, (.inl (fun _ => 0)))), ((g 18), .inl (cJ, 100, (.inr (.inl (fun _ => 0))))), (m0, .inr (12, (fsM gm))), ((gm 1), .inl (cI, 4000, (.inl (fun _ => 0)))), ((gm 4), .inl (cI, 6, (.inl (fun _ => 0)))), ((gm 5), .inl (cI, 49152, (.inl (fun _ => 0)))), ((gm 6), .inl (cZ, 768, (.inl (fun _ => 0)))), ((gm 168), .inl (cI, 100, (.inl (fun _ => 0)))), ((gm 169), .inl (cI, 100, (.inl (fun _ => 0)))), ((gm 170), .inl (cI, 100, (.inl (fun _ => 0)))), ((gm 171), .inl (cJ, 100, (.inr (.inl (fun _ => 0)))))] H) (hD : va_D A [(x0, .inr (11, (fsX g))), ((g 0), .inl (cB, 4000, (.inl (fun _ => 0)))), ((g 3), .inl (cP, 6, (.inr (.inr (.inr (.inr (fun _ => none))))))), ((g 14), .inr (0, (fs0 tf))), ((g 15), .inr (6, (fs6 tq))), ((g 16), .inr (8, (fs8 tt))), ((g 17), .inl (cI, 300, (.inl (fun _ => 0)))), ((g 18), .inl (cJ, 100, (.inr (.inl (fun _ => 0))))), (m0, .inr (12, (fsM gm))), ((gm 1), .inl (cI, 4000, (.inl (fun _ => 0)))), ((gm 4), .inl (cI, 6, (.inl (fun _ => 0)))), ((gm 5), .inl (cI, 49152, (.inl (fun _ => 0)))), ((gm 6), .inl (cZ, 768, (.inl (fun _ => 0)))), ((gm 168), .inl (cI, 100, (.inl (fun _ => 0)))), ((gm 169), .inl (cI, 100, (.inl (fun _ => 0)))), ((gm 170), .inl (cI, 100, (.inl (fun _ => 0)))), ((gm 171), .inl (cJ, 100, (.inr (.inl (fun _ => 0)))))]) (hS : va_S A s.heap H locs) (ls : Array Slot) (hl : lv_has ls 4 [(3, .int 0), (2, .ref m0), (1, .ref x0), (0, .ref b)]) : W p l e room_1 s m #[Value.ref b] below meth c H locs 147 815844 (lw_Z below #[Value.ref b] s) (F0 m 1641 ls []) := by
  subst hL
  obtain ⟨hx, hb, hr, hml, hown, hts, hX, hbl, hlocks, hgv⟩ := id C0
  have hown : s.vm.findClass RL = some m.cls := hown
  have hbA : ¬ A b := fun h => absurd (hAl b h) (Nat.not_le.mpr hbl)
  refine lv_aload_n hx hb dL_law_1641 rfl (lv_at hl 2 rfl) ?_
  have hPc := hP.sub (ws' := [(x0, .inr (11, (fsX g))), ((g 16), .inr (8, (fs8 tt)))]) [0, 5] rfl
  have hDc := hD.sub (ws' := [(x0, .inr (11, (fsX g))), ((g 16), .inr (8, (fs8 tt)))]) [0, 5] (by decide) rfl
  have hKc := hK
  have hFc := va_free (wc := [(x0, .inr (11, (fsX g))), ((g 16), .inr (8, (fs8 tt)))]) hD hS hA [0, 5] rfl
  refine va_calli (va_runV (As := []) (rest := []) ⟨hx, hb, hml, hown, hts⟩ (c_X11_line l dC dI cI cB cZ cJ cC cP cV cT cO H.size x0 g tt) (cwV 0 hts gq_L_law_X11_line_187 rfl rfl rfl (by decide +kernel) ⟨Nat.le_of_ble_eq_true rfl, Nat.le_of_ble_eq_true rfl⟩) ⟨fun a U g mk q => by obtain ⟨q0, q1, qP, qK, qD⟩ := q; exact ⟨q0, q1, qP, va_K.moved (u := U) (U := U.calling g mk a) (Vm.Alike.refl U.vm) qK, qD⟩, va_recv hKc hPc (ci := 11) (q0 := 0) rfl rfl, fun U hU hW => ⟨rfl, by rw [hU], by rw [hU]; exact hPc, va_K.moved hW.alike hKc, hDc.weaken (fun _ _ _ _ => trivial)⟩⟩ rfl rfl hl.1 rfl (lv_room (Nat.le_of_ble_eq_true rfl)) dL_law_1642 ⟨Nat.le_of_ble_eq_true rfl, Nat.le_of_ble_eq_true rfl⟩) hS (fun q _ h => hFc q h) hFc (fun r_1 u t H1 locs ht hvm hr_1 hB hz1 hk1 hS => ?_)
  obtain ⟨hP, hD⟩ := va_join (wr := [((g 0), .inl (cB, 4000, (.inl (fun _ => 0)))), ((g 3), .inl (cP, 6, (.inr (.inr (.inr (.inr (fun _ => none))))))), ((g 14), .inr (0, (fs0 tf))), ((g 15), .inr (6, (fs6 tq))), ((g 17), .inl (cI, 300, (.inl (fun _ => 0)))), ((g 18), .inl (cJ, 100, (.inr (.inl (fun _ => 0))))), (m0, .inr (12, (fsM gm))), ((gm 1), .inl (cI, 4000, (.inl (fun _ => 0)))), ((gm 4), .inl (cI, 6, (.inl (fun _ => 0)))), ((gm 5), .inl (cI, 49152, (.inl (fun _ => 0)))), ((gm 6), .inl (cZ, 768, (.inl (fun _ => 0)))), ((gm 168), .inl (cI, 100, (.inl (fun _ => 0)))), ((gm 169), .inl (cI, 100, (.inl (fun _ => 0)))), ((gm 170), .inl (cI, 100, (.inl (fun _ => 0)))), ((gm 171), .inl (cJ, 100, (.inr (.inl (fun _ => 0)))))]) (w1 := []) hP hD [0, 5] [1, 2, 3, 4, 6, 7, 8, 9, 10, 11, 12, 13, 14, 15, 16] rfl rfl (by decide) (by decide) hk1 hFc nw_P0 nw_D0
  generalize H1 = H at hP hS ⊢
  have hP : va_P (dC, dI) vwCl [((g 0), .inl (cB, 4000, (.inl (fun _ => 0)))), ((g 3), .inl (cP, 6, (.inr (.inr (.inr (.inr (fun _ => none))))))), ((g 14), .inr (0, (fs0 tf))), ((g 15), .inr (6, (fs6 tq))), ((g 17), .inl (cI, 300, (.inl (fun _ => 0)))), ((g 18), .inl (cJ, 100, (.inr (.inl (fun _ => 0))))), (m0, .inr (12, (fsM gm))), ((gm 1), .inl (cI, 4000, (.inl (fun _ => 0)))), ((gm 4), .inl (cI, 6, (.inl (fun _ => 0)))), ((gm 5), .inl (cI, 49152, (.inl (fun _ => 0)))), ((gm 6), .inl (cZ, 768, (.inl (fun _ => 0)))), ((gm 168), .inl (cI, 100, (.inl (fun _ => 0)))), ((gm 169), .inl (cI, 100, (.inl (fun _ => 0)))), ((gm 170), .inl (cI, 100, (.inl (fun _ => 0)))), ((gm 171), .inl (cJ, 100, (.inr (.inl (fun _ => 0)))))] H := hP
  have hD : va_D A [((g 0), .inl (cB, 4000, (.inl (fun _ => 0)))), ((g 3), .inl (cP, 6, (.inr (.inr (.inr (.inr (fun _ => none))))))), ((g 14), .inr (0, (fs0 tf))), ((g 15), .inr (6, (fs6 tq))), ((g 17), .inl (cI, 300, (.inl (fun _ => 0)))), ((g 18), .inl (cJ, 100, (.inr (.inl (fun _ => 0))))), (m0, .inr (12, (fsM gm))), ((gm 1), .inl (cI, 4000, (.inl (fun _ => 0)))), ((gm 4), .inl (cI, 6, (.inl (fun _ => 0)))), ((gm 5), .inl (cI, 49152, (.inl (fun _ => 0)))), ((gm 6), .inl (cZ, 768, (.inl (fun _ => 0)))), ((gm 168), .inl (cI, 100, (.inl (fun _ => 0)))), ((gm 169), .inl (cI, 100, (.inl (fun _ => 0)))), ((gm 170), .inl (cI, 100, (.inl (fun _ => 0)))), ((gm 171), .inl (cJ, 100, (.inr (.inl (fun _ => 0)))))] := hD
  obtain rfl : r_1 = 0 := hr_1
  refine lv_aload_n hx hb dL_law_1645 rfl (lv_at hl 1 rfl) ?_
  have hPc := hP.sub (ws' := [(m0, .inr (12, (fsM gm)))]) [6] rfl
  have hDc := hD.sub (ws' := [(m0, .inr (12, (fsM gm)))]) [6] (by decide) rfl
  have hKc := hK
  have hFc := va_free (wc := [(m0, .inr (12, (fsM gm)))]) hD hS hA [6] rfl
  refine va_calli (va_runV (As := []) (rest := [.int 0]) ⟨hx, hb, hml, hown, hts⟩ (c_X12_line l dC dI cI cB cZ cJ cC cP cV cT cO H.size m0 gm) (cwV 0 hts gq_L_law_X12_line_190 rfl rfl rfl (by decide +kernel) ⟨Nat.le_of_ble_eq_true rfl, Nat.le_of_ble_eq_true rfl⟩) ⟨fun a U g mk q => by obtain ⟨q0, q1, qP, qK, qD⟩ := q; exact ⟨q0, q1, qP, va_K.moved (u := U) (U := U.calling g mk a) (Vm.Alike.refl U.vm) qK, qD⟩, va_recv hKc hPc (ci := 12) (q0 := 0) rfl rfl, fun U hU hW => ⟨rfl, by rw [hU], by rw [hU]; exact hPc, va_K.moved hW.alike hKc, hDc.weaken (fun _ _ _ _ => trivial)⟩⟩ rfl rfl hl.1 rfl (lv_room (Nat.le_of_ble_eq_true rfl)) dL_law_1646 ⟨Nat.le_of_ble_eq_true rfl, Nat.le_of_ble_eq_true rfl⟩) hS (fun q _ h => hFc q h) hFc (fun r_2 u t H1 locs ht hvm hr_2 hB hz1 hk1 hS => ?_)
  obtain ⟨hP, hD⟩ := va_join (wr := [((g 0), .inl (cB, 4000, (.inl (fun _ => 0)))), ((g 3), .inl (cP, 6, (.inr (.inr (.inr (.inr (fun _ => none))))))), ((g 14), .inr (0, (fs0 tf))), ((g 15), .inr (6, (fs6 tq))), ((g 17), .inl (cI, 300, (.inl (fun _ => 0)))), ((g 18), .inl (cJ, 100, (.inr (.inl (fun _ => 0))))), ((gm 1), .inl (cI, 4000, (.inl (fun _ => 0)))), ((gm 4), .inl (cI, 6, (.inl (fun _ => 0)))), ((gm 5), .inl (cI, 49152, (.inl (fun _ => 0)))), ((gm 6), .inl (cZ, 768, (.inl (fun _ => 0)))), ((gm 168), .inl (cI, 100, (.inl (fun _ => 0)))), ((gm 169), .inl (cI, 100, (.inl (fun _ => 0)))), ((gm 170), .inl (cI, 100, (.inl (fun _ => 0)))), ((gm 171), .inl (cJ, 100, (.inr (.inl (fun _ => 0)))))]) (w1 := []) hP hD [6] [0, 1, 2, 3, 4, 5, 7, 8, 9, 10, 11, 12, 13, 14] rfl rfl (by decide) (by decide) hk1 hFc nw_P0 nw_D0
  generalize H1 = H at hP hS ⊢
  have hP : va_P (dC, dI) vwCl [((g 0), .inl (cB, 4000, (.inl (fun _ => 0)))), ((g 3), .inl (cP, 6, (.inr (.inr (.inr (.inr (fun _ => none))))))), ((g 14), .inr (0, (fs0 tf))), ((g 15), .inr (6, (fs6 tq))), ((g 17), .inl (cI, 300, (.inl (fun _ => 0)))), ((g 18), .inl (cJ, 100, (.inr (.inl (fun _ => 0))))), ((gm 1), .inl (cI, 4000, (.inl (fun _ => 0)))), ((gm 4), .inl (cI, 6, (.inl (fun _ => 0)))), ((gm 5), .inl (cI, 49152, (.inl (fun _ => 0)))), ((gm 6), .inl (cZ, 768, (.inl (fun _ => 0)))), ((gm 168), .inl (cI, 100, (.inl (fun _ => 0)))), ((gm 169), .inl (cI, 100, (.inl (fun _ => 0)))), ((gm 170), .inl (cI, 100, (.inl (fun _ => 0)))), ((gm 171), .inl (cJ, 100, (.inr (.inl (fun _ => 0)))))] H := hP
  have hD : va_D A [((g 0), .inl (cB, 4000, (.inl (fun _ => 0)))), ((g 3), .inl (cP, 6, (.inr (.inr (.inr (.inr (fun _ => none))))))), ((g 14), .inr (0, (fs0 tf))), ((g 15), .inr (6, (fs6 tq))), ((g 17), .inl (cI, 300, (.inl (fun _ => 0)))), ((g 18), .inl (cJ, 100, (.inr (.inl (fun _ => 0))))), ((gm 1), .inl (cI, 4000, (.inl (fun _ => 0)))), ((gm 4), .inl (cI, 6, (.inl (fun _ => 0)))), ((gm 5), .inl (cI, 49152, (.inl (fun _ => 0)))), ((gm 6), .inl (cZ, 768, (.inl (fun _ => 0)))), ((gm 168), .inl (cI, 100, (.inl (fun _ => 0)))), ((gm 169), .inl (cI, 100, (.inl (fun _ => 0)))), ((gm 170), .inl (cI, 100, (.inl (fun _ => 0)))), ((gm 171), .inl (cJ, 100, (.inr (.inl (fun _ => 0)))))] := hD
  obtain rfl : r_2 = 0 := hr_2
  refine lv_icmp_eq (tgt := 1979) hx hb dL_law_1649 (by decide) (fun _ => ?_) (fun c_3 => absurd (by decide) c_3)
  exact law_tail l C0 hA hAl rfl hS (Nat.le_of_ble_eq_true rfl) (Nat.le_of_ble_eq_true rfl) x0 m0 ls (lv_sub hl [0, 1, 2, 3] rfl)
set_option maxHeartbeats 40000000 in
set_option maxRecDepth 100000 in
theorem law_case_42 {p : Program} {e : Env} {s : State} {m : MethodId} {below : List Frame} {meth : Method} {c : Code} (l : Launch) {b L : Nat} {xs : Nat → Int32} (C0 : lw_At p s m meth c b L xs) {A : Nat → Prop} (hA : ∀ q : Nat, s.heap.size ≤ q → A q) (hAl : ∀ q : Nat, A q → s.heap.size ≤ q) (hL : L = 5) (dC : Nat → ClassId) (dI : Nat → Nat → Nat) (cI cB cZ cJ cC cP cV cT cO : ClassId) (x0 m0 : Nat) (g tf tq tt gm : Nat → Nat) (hK : va_K (dC, dI) vwCl [(cI, .int), (cB, .byte), (cZ, .boolean), (cJ, .long), (cC, .char), (cP, .object "DiskEvidence$Picture"), (cV, .object "DiskEvidence$Volume"), (cT, .object "DiskEvidence$Tree"), (cO, .object "DiskEvidence$Opening")] s) {H : Heap} {locs : List Loc} (hP : va_P (dC, dI) vwCl [(x0, .inr (11, (fsX g))), ((g 0), .inl (cB, 4000, (.inl (fun _ => 0)))), ((g 3), .inl (cP, 6, (.inr (.inr (.inr (.inr (fun _ => none))))))), ((g 14), .inr (0, (fs0 tf))), ((g 15), .inr (6, (fs6 tq))), ((g 16), .inr (8, (fs8 tt))), ((g 17), .inl (cI, 300, (.inl (fun _ => 0)))), ((g 18), .inl (cJ, 100, (.inr (.inl (fun _ => 0))))), (m0, .inr (12, (fsM gm))), ((gm 1), .inl (cI, 4000, (.inl (fun _ => 0)))), ((gm 4), .inl (cI, 6, (.inl (fun _ => 0)))), ((gm 5), .inl (cI, 49152, (.inl (fun _ => 0)))), ((gm 6), .inl (cZ, 768, (.inl (fun _ => 0)))), ((gm 168), .inl (cI, 100, (.inl (fun _ => 0)))), ((gm 169), .inl (cI, 100, (.inl (fun _ => 0)))), ((gm 170), .inl (cI, 100, (.inl (fun _ => 0)))), ((gm 171), .inl (cJ, 100, (.inr (.inl (fun _ => 0)))))] H) (hD : va_D A [(x0, .inr (11, (fsX g))), ((g 0), .inl (cB, 4000, (.inl (fun _ => 0)))), ((g 3), .inl (cP, 6, (.inr (.inr (.inr (.inr (fun _ => none))))))), ((g 14), .inr (0, (fs0 tf))), ((g 15), .inr (6, (fs6 tq))), ((g 16), .inr (8, (fs8 tt))), ((g 17), .inl (cI, 300, (.inl (fun _ => 0)))), ((g 18), .inl (cJ, 100, (.inr (.inl (fun _ => 0))))), (m0, .inr (12, (fsM gm))), ((gm 1), .inl (cI, 4000, (.inl (fun _ => 0)))), ((gm 4), .inl (cI, 6, (.inl (fun _ => 0)))), ((gm 5), .inl (cI, 49152, (.inl (fun _ => 0)))), ((gm 6), .inl (cZ, 768, (.inl (fun _ => 0)))), ((gm 168), .inl (cI, 100, (.inl (fun _ => 0)))), ((gm 169), .inl (cI, 100, (.inl (fun _ => 0)))), ((gm 170), .inl (cI, 100, (.inl (fun _ => 0)))), ((gm 171), .inl (cJ, 100, (.inr (.inl (fun _ => 0)))))]) (hS : va_S A s.heap H locs) (ls : Array Slot) (hl : lv_has ls 4 [(3, .int 0), (2, .ref m0), (1, .ref x0), (0, .ref b)]) : W p l e room_1 s m #[Value.ref b] below meth c H locs 147 815844 (lw_Z below #[Value.ref b] s) (F0 m 1654 ls []) := by
  subst hL
  obtain ⟨hx, hb, hr, hml, hown, hts, hX, hbl, hlocks, hgv⟩ := id C0
  have hown : s.vm.findClass RL = some m.cls := hown
  have hbA : ¬ A b := fun h => absurd (hAl b h) (Nat.not_le.mpr hbl)
  refine lv_aload_n hx hb dL_law_1654 rfl (lv_at hl 2 rfl) ?_
  refine lv_aload_n hx hb dL_law_1655 rfl (lv_at hl 3 rfl) ?_
  refine lv_iload_n hx hb dL_law_1656 rfl (lv_at hl 0 rfl) ?_
  refine lv_iconst (v := 1) hx hb dL_law_1657 (by decide) ?_
  refine lv_iadd hx hb dL_law_1658 ?_
  refine lv_topi (fun f_1 ef_1 => ?_)
  obtain rfl : (1 : Int32) = f_1 := (ef_1.trans (by decide)).symm
  refine va_sld hx hb hX hbl hbA hS (vp_in_nI (n := 1) (N := 5) (by decide) (by decide)) dL_law_1659 ?_
  refine lv_aload_n hx hb dL_law_1660 rfl (lv_at hl 3 rfl) ?_
  refine lv_iload_n hx hb dL_law_1661 rfl (lv_at hl 0 rfl) ?_
  refine lv_iconst (v := 2) hx hb dL_law_1662 (by decide) ?_
  refine lv_iadd hx hb dL_law_1663 ?_
  refine lv_topi (fun f_2 ef_2 => ?_)
  obtain rfl : (2 : Int32) = f_2 := (ef_2.trans (by decide)).symm
  refine va_sld hx hb hX hbl hbA hS (vp_in_nI (n := 2) (N := 5) (by decide) (by decide)) dL_law_1664 ?_
  have hPc := hP.sub (ws' := [(x0, .inr (11, (fsX g))), ((g 16), .inr (8, (fs8 tt)))]) [0, 5] rfl
  have hDc := hD.sub (ws' := [(x0, .inr (11, (fsX g))), ((g 16), .inr (8, (fs8 tt)))]) [0, 5] (by decide) rfl
  have hKc := hK
  refine vp_callSl (va_Run.run (va_runV (As := [.int (xs (1 : Int32).toNatClampNeg), .int (xs (2 : Int32).toNatClampNeg)]) (rest := []) ⟨hx, hb, hml, hown, hts⟩ (c_X11_time l dC dI cI cB cZ cJ cC cP cV cT cO H.size x0 g tt (xs (1 : Int32).toNatClampNeg) (xs (2 : Int32).toNatClampNeg)) (cwV 2 hts gq_L_law_X11_time_191 rfl rfl rfl (by decide +kernel) ⟨Nat.le_of_ble_eq_true rfl, Nat.le_of_ble_eq_true rfl⟩) ⟨fun a U g mk q => by obtain ⟨q0, q1, qP, qK, qD⟩ := q; exact ⟨q0, q1, qP, va_K.moved (u := U) (U := U.calling g mk a) (Vm.Alike.refl U.vm) qK, qD⟩, va_recv hKc hPc (ci := 11) (q0 := 0) rfl rfl, fun U hU hW => ⟨rfl, by rw [hU], by rw [hU]; exact hPc, va_K.moved hW.alike hKc, hDc.weaken (fun _ _ _ _ => trivial)⟩⟩ rfl rfl hl.1 rfl (lv_room (Nat.le_of_ble_eq_true rfl)) dL_law_1665 ⟨Nat.le_of_ble_eq_true rfl, Nat.le_of_ble_eq_true rfl⟩)) (fun r_3 hr_3 => ?_)
  obtain rfl : r_3 = (-2) := hr_3
  refine lv_aload_n hx hb dL_law_1668 rfl (lv_at hl 1 rfl) ?_
  refine lv_aload_n hx hb dL_law_1669 rfl (lv_at hl 3 rfl) ?_
  refine lv_iload_n hx hb dL_law_1670 rfl (lv_at hl 0 rfl) ?_
  refine lv_iconst (v := 1) hx hb dL_law_1671 (by decide) ?_
  refine lv_iadd hx hb dL_law_1672 ?_
  refine lv_topi (fun f_4 ef_4 => ?_)
  obtain rfl : (1 : Int32) = f_4 := (ef_4.trans (by decide)).symm
  refine va_sld hx hb hX hbl hbA hS (vp_in_nI (n := 1) (N := 5) (by decide) (by decide)) dL_law_1673 ?_
  refine lv_aload_n hx hb dL_law_1674 rfl (lv_at hl 3 rfl) ?_
  refine lv_iload_n hx hb dL_law_1675 rfl (lv_at hl 0 rfl) ?_
  refine lv_iconst (v := 2) hx hb dL_law_1676 (by decide) ?_
  refine lv_iadd hx hb dL_law_1677 ?_
  refine lv_topi (fun f_5 ef_5 => ?_)
  obtain rfl : (2 : Int32) = f_5 := (ef_5.trans (by decide)).symm
  refine va_sld hx hb hX hbl hbA hS (vp_in_nI (n := 2) (N := 5) (by decide) (by decide)) dL_law_1678 ?_
  have hPc := hP.sub (ws' := [(m0, .inr (12, (fsM gm)))]) [8] rfl
  have hDc := hD.sub (ws' := [(m0, .inr (12, (fsM gm)))]) [8] (by decide) rfl
  have hKc := hK
  refine vp_callSl (va_Run.run (va_runV (As := [.int (xs (1 : Int32).toNatClampNeg), .int (xs (2 : Int32).toNatClampNeg)]) (rest := [.long (-2)]) ⟨hx, hb, hml, hown, hts⟩ (c_X12_time l dC dI cI cB cZ cJ cC cP cV cT cO H.size m0 gm (xs (1 : Int32).toNatClampNeg) (xs (2 : Int32).toNatClampNeg)) (cwV 2 hts gq_L_law_X12_time_195 rfl rfl rfl (by decide +kernel) ⟨Nat.le_of_ble_eq_true rfl, Nat.le_of_ble_eq_true rfl⟩) ⟨fun a U g mk q => by obtain ⟨q0, q1, qP, qK, qD⟩ := q; exact ⟨q0, q1, qP, va_K.moved (u := U) (U := U.calling g mk a) (Vm.Alike.refl U.vm) qK, qD⟩, va_recv hKc hPc (ci := 12) (q0 := 0) rfl rfl, fun U hU hW => ⟨rfl, by rw [hU], by rw [hU]; exact hPc, va_K.moved hW.alike hKc, hDc.weaken (fun _ _ _ _ => trivial)⟩⟩ rfl rfl hl.1 rfl (lv_room (Nat.le_of_ble_eq_true rfl)) dL_law_1679 ⟨Nat.le_of_ble_eq_true rfl, Nat.le_of_ble_eq_true rfl⟩)) (fun r_6 hr_6 => ?_)
  obtain rfl : r_6 = (-2) := hr_6
  refine W.lcmp hx hb dL_law_1682 ?_
  refine lv_topi (fun f_8 ef_8 => ?_)
  obtain rfl : (0 : Int32) = f_8 := (ef_8.trans (by decide)).symm
  refine lv_if_eq (tgt := 1979) hx hb dL_law_1683 (by decide) (fun _ => ?_) (fun c_9 => absurd (by decide) c_9)
  exact law_tail l C0 hA hAl rfl hS (Nat.le_of_ble_eq_true rfl) (Nat.le_of_ble_eq_true rfl) x0 m0 ls (lv_sub hl [0, 1, 2, 3] rfl)
set_option maxHeartbeats 40000000 in
set_option maxRecDepth 100000 in
theorem law_case_43 {p : Program} {e : Env} {s : State} {m : MethodId} {below : List Frame} {meth : Method} {c : Code} (l : Launch) {b L : Nat} {xs : Nat → Int32} (C0 : lw_At p s m meth c b L xs) {A : Nat → Prop} (hA : ∀ q : Nat, s.heap.size ≤ q → A q) (hAl : ∀ q : Nat, A q → s.heap.size ≤ q) (hL : L = 5) (dC : Nat → ClassId) (dI : Nat → Nat → Nat) (cI cB cZ cJ cC cP cV cT cO : ClassId) (x0 m0 : Nat) (g tf tq tt gm : Nat → Nat) (hK : va_K (dC, dI) vwCl [(cI, .int), (cB, .byte), (cZ, .boolean), (cJ, .long), (cC, .char), (cP, .object "DiskEvidence$Picture"), (cV, .object "DiskEvidence$Volume"), (cT, .object "DiskEvidence$Tree"), (cO, .object "DiskEvidence$Opening")] s) {H : Heap} {locs : List Loc} (hP : va_P (dC, dI) vwCl [(x0, .inr (11, (fsX g))), ((g 0), .inl (cB, 4000, (.inl (fun _ => 0)))), ((g 3), .inl (cP, 6, (.inr (.inr (.inr (.inr (fun _ => none))))))), ((g 14), .inr (0, (fs0 tf))), ((g 15), .inr (6, (fs6 tq))), ((g 16), .inr (8, (fs8 tt))), ((g 17), .inl (cI, 300, (.inl (fun _ => 0)))), ((g 18), .inl (cJ, 100, (.inr (.inl (fun _ => 0))))), (m0, .inr (12, (fsM gm))), ((gm 1), .inl (cI, 4000, (.inl (fun _ => 0)))), ((gm 4), .inl (cI, 6, (.inl (fun _ => 0)))), ((gm 5), .inl (cI, 49152, (.inl (fun _ => 0)))), ((gm 6), .inl (cZ, 768, (.inl (fun _ => 0)))), ((gm 168), .inl (cI, 100, (.inl (fun _ => 0)))), ((gm 169), .inl (cI, 100, (.inl (fun _ => 0)))), ((gm 170), .inl (cI, 100, (.inl (fun _ => 0)))), ((gm 171), .inl (cJ, 100, (.inr (.inl (fun _ => 0)))))] H) (hD : va_D A [(x0, .inr (11, (fsX g))), ((g 0), .inl (cB, 4000, (.inl (fun _ => 0)))), ((g 3), .inl (cP, 6, (.inr (.inr (.inr (.inr (fun _ => none))))))), ((g 14), .inr (0, (fs0 tf))), ((g 15), .inr (6, (fs6 tq))), ((g 16), .inr (8, (fs8 tt))), ((g 17), .inl (cI, 300, (.inl (fun _ => 0)))), ((g 18), .inl (cJ, 100, (.inr (.inl (fun _ => 0))))), (m0, .inr (12, (fsM gm))), ((gm 1), .inl (cI, 4000, (.inl (fun _ => 0)))), ((gm 4), .inl (cI, 6, (.inl (fun _ => 0)))), ((gm 5), .inl (cI, 49152, (.inl (fun _ => 0)))), ((gm 6), .inl (cZ, 768, (.inl (fun _ => 0)))), ((gm 168), .inl (cI, 100, (.inl (fun _ => 0)))), ((gm 169), .inl (cI, 100, (.inl (fun _ => 0)))), ((gm 170), .inl (cI, 100, (.inl (fun _ => 0)))), ((gm 171), .inl (cJ, 100, (.inr (.inl (fun _ => 0)))))]) (hS : va_S A s.heap H locs) (ls : Array Slot) (hl : lv_has ls 4 [(3, .int 0), (2, .ref m0), (1, .ref x0), (0, .ref b)]) : W p l e room_1 s m #[Value.ref b] below meth c H locs 147 815844 (lw_Z below #[Value.ref b] s) (F0 m 1688 ls []) := by
  subst hL
  obtain ⟨hx, hb, hr, hml, hown, hts, hX, hbl, hlocks, hgv⟩ := id C0
  have hown : s.vm.findClass RL = some m.cls := hown
  have hbA : ¬ A b := fun h => absurd (hAl b h) (Nat.not_le.mpr hbl)
  refine lv_aload_n hx hb dL_law_1688 rfl (lv_at hl 2 rfl) ?_
  have hPc := hP.sub (ws' := [(x0, .inr (11, (fsX g))), ((g 16), .inr (8, (fs8 tt)))]) [0, 5] rfl
  have hDc := hD.sub (ws' := [(x0, .inr (11, (fsX g))), ((g 16), .inr (8, (fs8 tt)))]) [0, 5] (by decide) rfl
  have hKc := hK
  have hFc := va_free (wc := [(x0, .inr (11, (fsX g))), ((g 16), .inr (8, (fs8 tt)))]) hD hS hA [0, 5] rfl
  refine va_calli (va_runV (As := []) (rest := []) ⟨hx, hb, hml, hown, hts⟩ (c_X11_doubts l dC dI cI cB cZ cJ cC cP cV cT cO H.size x0 g tt) (cwV 0 hts gq_L_law_X11_doubts_196 rfl rfl rfl (by decide +kernel) ⟨Nat.le_of_ble_eq_true rfl, Nat.le_of_ble_eq_true rfl⟩) ⟨fun a U g mk q => by obtain ⟨q0, q1, qP, qK, qD⟩ := q; exact ⟨q0, q1, qP, va_K.moved (u := U) (U := U.calling g mk a) (Vm.Alike.refl U.vm) qK, qD⟩, va_recv hKc hPc (ci := 11) (q0 := 0) rfl rfl, fun U hU hW => ⟨rfl, by rw [hU], by rw [hU]; exact hPc, va_K.moved hW.alike hKc, hDc.weaken (fun _ _ _ _ => trivial)⟩⟩ rfl rfl hl.1 rfl (lv_room (Nat.le_of_ble_eq_true rfl)) dL_law_1689 ⟨Nat.le_of_ble_eq_true rfl, Nat.le_of_ble_eq_true rfl⟩) hS (fun q _ h => hFc q h) hFc (fun r_1 u t H1 locs ht hvm hr_1 hB hz1 hk1 hS => ?_)
  obtain ⟨hP, hD⟩ := va_join (wr := [((g 0), .inl (cB, 4000, (.inl (fun _ => 0)))), ((g 3), .inl (cP, 6, (.inr (.inr (.inr (.inr (fun _ => none))))))), ((g 14), .inr (0, (fs0 tf))), ((g 15), .inr (6, (fs6 tq))), ((g 17), .inl (cI, 300, (.inl (fun _ => 0)))), ((g 18), .inl (cJ, 100, (.inr (.inl (fun _ => 0))))), (m0, .inr (12, (fsM gm))), ((gm 1), .inl (cI, 4000, (.inl (fun _ => 0)))), ((gm 4), .inl (cI, 6, (.inl (fun _ => 0)))), ((gm 5), .inl (cI, 49152, (.inl (fun _ => 0)))), ((gm 6), .inl (cZ, 768, (.inl (fun _ => 0)))), ((gm 168), .inl (cI, 100, (.inl (fun _ => 0)))), ((gm 169), .inl (cI, 100, (.inl (fun _ => 0)))), ((gm 170), .inl (cI, 100, (.inl (fun _ => 0)))), ((gm 171), .inl (cJ, 100, (.inr (.inl (fun _ => 0)))))]) (w1 := []) hP hD [0, 5] [1, 2, 3, 4, 6, 7, 8, 9, 10, 11, 12, 13, 14, 15, 16] rfl rfl (by decide) (by decide) hk1 hFc nw_P0 nw_D0
  generalize H1 = H at hP hS ⊢
  have hP : va_P (dC, dI) vwCl [((g 0), .inl (cB, 4000, (.inl (fun _ => 0)))), ((g 3), .inl (cP, 6, (.inr (.inr (.inr (.inr (fun _ => none))))))), ((g 14), .inr (0, (fs0 tf))), ((g 15), .inr (6, (fs6 tq))), ((g 17), .inl (cI, 300, (.inl (fun _ => 0)))), ((g 18), .inl (cJ, 100, (.inr (.inl (fun _ => 0))))), (m0, .inr (12, (fsM gm))), ((gm 1), .inl (cI, 4000, (.inl (fun _ => 0)))), ((gm 4), .inl (cI, 6, (.inl (fun _ => 0)))), ((gm 5), .inl (cI, 49152, (.inl (fun _ => 0)))), ((gm 6), .inl (cZ, 768, (.inl (fun _ => 0)))), ((gm 168), .inl (cI, 100, (.inl (fun _ => 0)))), ((gm 169), .inl (cI, 100, (.inl (fun _ => 0)))), ((gm 170), .inl (cI, 100, (.inl (fun _ => 0)))), ((gm 171), .inl (cJ, 100, (.inr (.inl (fun _ => 0)))))] H := hP
  have hD : va_D A [((g 0), .inl (cB, 4000, (.inl (fun _ => 0)))), ((g 3), .inl (cP, 6, (.inr (.inr (.inr (.inr (fun _ => none))))))), ((g 14), .inr (0, (fs0 tf))), ((g 15), .inr (6, (fs6 tq))), ((g 17), .inl (cI, 300, (.inl (fun _ => 0)))), ((g 18), .inl (cJ, 100, (.inr (.inl (fun _ => 0))))), (m0, .inr (12, (fsM gm))), ((gm 1), .inl (cI, 4000, (.inl (fun _ => 0)))), ((gm 4), .inl (cI, 6, (.inl (fun _ => 0)))), ((gm 5), .inl (cI, 49152, (.inl (fun _ => 0)))), ((gm 6), .inl (cZ, 768, (.inl (fun _ => 0)))), ((gm 168), .inl (cI, 100, (.inl (fun _ => 0)))), ((gm 169), .inl (cI, 100, (.inl (fun _ => 0)))), ((gm 170), .inl (cI, 100, (.inl (fun _ => 0)))), ((gm 171), .inl (cJ, 100, (.inr (.inl (fun _ => 0)))))] := hD
  obtain rfl : r_1 = 0 := hr_1
  refine lv_aload_n hx hb dL_law_1692 rfl (lv_at hl 1 rfl) ?_
  have hPc := hP.sub (ws' := [(m0, .inr (12, (fsM gm)))]) [6] rfl
  have hDc := hD.sub (ws' := [(m0, .inr (12, (fsM gm)))]) [6] (by decide) rfl
  have hKc := hK
  have hFc := va_free (wc := [(m0, .inr (12, (fsM gm)))]) hD hS hA [6] rfl
  refine va_calli (va_runV (As := []) (rest := [.int 0]) ⟨hx, hb, hml, hown, hts⟩ (c_X12_doubts l dC dI cI cB cZ cJ cC cP cV cT cO H.size m0 gm) (cwV 0 hts gq_L_law_X12_doubts_199 rfl rfl rfl (by decide +kernel) ⟨Nat.le_of_ble_eq_true rfl, Nat.le_of_ble_eq_true rfl⟩) ⟨fun a U g mk q => by obtain ⟨q0, q1, qP, qK, qD⟩ := q; exact ⟨q0, q1, qP, va_K.moved (u := U) (U := U.calling g mk a) (Vm.Alike.refl U.vm) qK, qD⟩, va_recv hKc hPc (ci := 12) (q0 := 0) rfl rfl, fun U hU hW => ⟨rfl, by rw [hU], by rw [hU]; exact hPc, va_K.moved hW.alike hKc, hDc.weaken (fun _ _ _ _ => trivial)⟩⟩ rfl rfl hl.1 rfl (lv_room (Nat.le_of_ble_eq_true rfl)) dL_law_1693 ⟨Nat.le_of_ble_eq_true rfl, Nat.le_of_ble_eq_true rfl⟩) hS (fun q _ h => hFc q h) hFc (fun r_2 u t H1 locs ht hvm hr_2 hB hz1 hk1 hS => ?_)
  obtain ⟨hP, hD⟩ := va_join (wr := [((g 0), .inl (cB, 4000, (.inl (fun _ => 0)))), ((g 3), .inl (cP, 6, (.inr (.inr (.inr (.inr (fun _ => none))))))), ((g 14), .inr (0, (fs0 tf))), ((g 15), .inr (6, (fs6 tq))), ((g 17), .inl (cI, 300, (.inl (fun _ => 0)))), ((g 18), .inl (cJ, 100, (.inr (.inl (fun _ => 0))))), ((gm 1), .inl (cI, 4000, (.inl (fun _ => 0)))), ((gm 4), .inl (cI, 6, (.inl (fun _ => 0)))), ((gm 5), .inl (cI, 49152, (.inl (fun _ => 0)))), ((gm 6), .inl (cZ, 768, (.inl (fun _ => 0)))), ((gm 168), .inl (cI, 100, (.inl (fun _ => 0)))), ((gm 169), .inl (cI, 100, (.inl (fun _ => 0)))), ((gm 170), .inl (cI, 100, (.inl (fun _ => 0)))), ((gm 171), .inl (cJ, 100, (.inr (.inl (fun _ => 0)))))]) (w1 := []) hP hD [6] [0, 1, 2, 3, 4, 5, 7, 8, 9, 10, 11, 12, 13, 14] rfl rfl (by decide) (by decide) hk1 hFc nw_P0 nw_D0
  generalize H1 = H at hP hS ⊢
  have hP : va_P (dC, dI) vwCl [((g 0), .inl (cB, 4000, (.inl (fun _ => 0)))), ((g 3), .inl (cP, 6, (.inr (.inr (.inr (.inr (fun _ => none))))))), ((g 14), .inr (0, (fs0 tf))), ((g 15), .inr (6, (fs6 tq))), ((g 17), .inl (cI, 300, (.inl (fun _ => 0)))), ((g 18), .inl (cJ, 100, (.inr (.inl (fun _ => 0))))), ((gm 1), .inl (cI, 4000, (.inl (fun _ => 0)))), ((gm 4), .inl (cI, 6, (.inl (fun _ => 0)))), ((gm 5), .inl (cI, 49152, (.inl (fun _ => 0)))), ((gm 6), .inl (cZ, 768, (.inl (fun _ => 0)))), ((gm 168), .inl (cI, 100, (.inl (fun _ => 0)))), ((gm 169), .inl (cI, 100, (.inl (fun _ => 0)))), ((gm 170), .inl (cI, 100, (.inl (fun _ => 0)))), ((gm 171), .inl (cJ, 100, (.inr (.inl (fun _ => 0)))))] H := hP
  have hD : va_D A [((g 0), .inl (cB, 4000, (.inl (fun _ => 0)))), ((g 3), .inl (cP, 6, (.inr (.inr (.inr (.inr (fun _ => none))))))), ((g 14), .inr (0, (fs0 tf))), ((g 15), .inr (6, (fs6 tq))), ((g 17), .inl (cI, 300, (.inl (fun _ => 0)))), ((g 18), .inl (cJ, 100, (.inr (.inl (fun _ => 0))))), ((gm 1), .inl (cI, 4000, (.inl (fun _ => 0)))), ((gm 4), .inl (cI, 6, (.inl (fun _ => 0)))), ((gm 5), .inl (cI, 49152, (.inl (fun _ => 0)))), ((gm 6), .inl (cZ, 768, (.inl (fun _ => 0)))), ((gm 168), .inl (cI, 100, (.inl (fun _ => 0)))), ((gm 169), .inl (cI, 100, (.inl (fun _ => 0)))), ((gm 170), .inl (cI, 100, (.inl (fun _ => 0)))), ((gm 171), .inl (cJ, 100, (.inr (.inl (fun _ => 0)))))] := hD
  obtain rfl : r_2 = 0 := hr_2
  refine lv_icmp_eq (tgt := 1979) hx hb dL_law_1696 (by decide) (fun _ => ?_) (fun c_3 => absurd (by decide) c_3)
  exact law_tail l C0 hA hAl rfl hS (Nat.le_of_ble_eq_true rfl) (Nat.le_of_ble_eq_true rfl) x0 m0 ls (lv_sub hl [0, 1, 2, 3] rfl)
set_option maxHeartbeats 40000000 in
set_option maxRecDepth 100000 in
theorem law_case_44 {p : Program} {e : Env} {s : State} {m : MethodId} {below : List Frame} {meth : Method} {c : Code} (l : Launch) {b L : Nat} {xs : Nat → Int32} (C0 : lw_At p s m meth c b L xs) {A : Nat → Prop} (hA : ∀ q : Nat, s.heap.size ≤ q → A q) (hAl : ∀ q : Nat, A q → s.heap.size ≤ q) (hL : L = 5) (dC : Nat → ClassId) (dI : Nat → Nat → Nat) (cI cB cZ cJ cC cP cV cT cO : ClassId) (x0 m0 : Nat) (g tf tq tt gm : Nat → Nat) (hK : va_K (dC, dI) vwCl [(cI, .int), (cB, .byte), (cZ, .boolean), (cJ, .long), (cC, .char), (cP, .object "DiskEvidence$Picture"), (cV, .object "DiskEvidence$Volume"), (cT, .object "DiskEvidence$Tree"), (cO, .object "DiskEvidence$Opening")] s) {H : Heap} {locs : List Loc} (hP : va_P (dC, dI) vwCl [(x0, .inr (11, (fsX g))), ((g 0), .inl (cB, 4000, (.inl (fun _ => 0)))), ((g 3), .inl (cP, 6, (.inr (.inr (.inr (.inr (fun _ => none))))))), ((g 14), .inr (0, (fs0 tf))), ((g 15), .inr (6, (fs6 tq))), ((g 16), .inr (8, (fs8 tt))), ((g 17), .inl (cI, 300, (.inl (fun _ => 0)))), ((g 18), .inl (cJ, 100, (.inr (.inl (fun _ => 0))))), (m0, .inr (12, (fsM gm))), ((gm 1), .inl (cI, 4000, (.inl (fun _ => 0)))), ((gm 4), .inl (cI, 6, (.inl (fun _ => 0)))), ((gm 5), .inl (cI, 49152, (.inl (fun _ => 0)))), ((gm 6), .inl (cZ, 768, (.inl (fun _ => 0)))), ((gm 168), .inl (cI, 100, (.inl (fun _ => 0)))), ((gm 169), .inl (cI, 100, (.inl (fun _ => 0)))), ((gm 170), .inl (cI, 100, (.inl (fun _ => 0)))), ((gm 171), .inl (cJ, 100, (.inr (.inl (fun _ => 0)))))] H) (hD : va_D A [(x0, .inr (11, (fsX g))), ((g 0), .inl (cB, 4000, (.inl (fun _ => 0)))), ((g 3), .inl (cP, 6, (.inr (.inr (.inr (.inr (fun _ => none))))))), ((g 14), .inr (0, (fs0 tf))), ((g 15), .inr (6, (fs6 tq))), ((g 16), .inr (8, (fs8 tt))), ((g 17), .inl (cI, 300, (.inl (fun _ => 0)))), ((g 18), .inl (cJ, 100, (.inr (.inl (fun _ => 0))))), (m0, .inr (12, (fsM gm))), ((gm 1), .inl (cI, 4000, (.inl (fun _ => 0)))), ((gm 4), .inl (cI, 6, (.inl (fun _ => 0)))), ((gm 5), .inl (cI, 49152, (.inl (fun _ => 0)))), ((gm 6), .inl (cZ, 768, (.inl (fun _ => 0)))), ((gm 168), .inl (cI, 100, (.inl (fun _ => 0)))), ((gm 169), .inl (cI, 100, (.inl (fun _ => 0)))), ((gm 170), .inl (cI, 100, (.inl (fun _ => 0)))), ((gm 171), .inl (cJ, 100, (.inr (.inl (fun _ => 0)))))]) (hS : va_S A s.heap H locs) (ls : Array Slot) (hl : lv_has ls 4 [(3, .int 0), (2, .ref m0), (1, .ref x0), (0, .ref b)]) : W p l e room_1 s m #[Value.ref b] below meth c H locs 147 815844 (lw_Z below #[Value.ref b] s) (F0 m 1701 ls []) := by
  subst hL
  obtain ⟨hx, hb, hr, hml, hown, hts, hX, hbl, hlocks, hgv⟩ := id C0
  have hown : s.vm.findClass RL = some m.cls := hown
  have hbA : ¬ A b := fun h => absurd (hAl b h) (Nat.not_le.mpr hbl)
  refine lv_aload_n hx hb dL_law_1701 rfl (lv_at hl 2 rfl) ?_
  refine lv_aload_n hx hb dL_law_1702 rfl (lv_at hl 3 rfl) ?_
  refine lv_iload_n hx hb dL_law_1703 rfl (lv_at hl 0 rfl) ?_
  refine lv_iconst (v := 1) hx hb dL_law_1704 (by decide) ?_
  refine lv_iadd hx hb dL_law_1705 ?_
  refine lv_topi (fun f_1 ef_1 => ?_)
  obtain rfl : (1 : Int32) = f_1 := (ef_1.trans (by decide)).symm
  refine va_sld hx hb hX hbl hbA hS (vp_in_nI (n := 1) (N := 5) (by decide) (by decide)) dL_law_1706 ?_
  refine lv_aload_n hx hb dL_law_1707 rfl (lv_at hl 3 rfl) ?_
  refine lv_iload_n hx hb dL_law_1708 rfl (lv_at hl 0 rfl) ?_
  refine lv_iconst (v := 2) hx hb dL_law_1709 (by decide) ?_
  refine lv_iadd hx hb dL_law_1710 ?_
  refine lv_topi (fun f_2 ef_2 => ?_)
  obtain rfl : (2 : Int32) = f_2 := (ef_2.trans (by decide)).symm
  refine va_sld hx hb hX hbl hbA hS (vp_in_nI (n := 2) (N := 5) (by decide) (by decide)) dL_law_1711 ?_
  have hPc := hP.sub (ws' := [(x0, .inr (11, (fsX g))), ((g 16), .inr (8, (fs8 tt)))]) [0, 5] rfl
  have hDc := hD.sub (ws' := [(x0, .inr (11, (fsX g))), ((g 16), .inr (8, (fs8 tt)))]) [0, 5] (by decide) rfl
  have hKc := hK
  refine vp_callSi (va_Run.run (va_runV (As := [.int (xs (1 : Int32).toNatClampNeg), .int (xs (2 : Int32).toNatClampNeg)]) (rest := []) ⟨hx, hb, hml, hown, hts⟩ (c_X11_doubt l dC dI cI cB cZ cJ cC cP cV cT cO H.size x0 g tt (xs (1 : Int32).toNatClampNeg) (xs (2 : Int32).toNatClampNeg)) (cwV 2 hts gq_L_law_X11_doubt_200 rfl rfl rfl (by decide +kernel) ⟨Nat.le_of_ble_eq_true rfl, Nat.le_of_ble_eq_true rfl⟩) ⟨fun a U g mk q => by obtain ⟨q0, q1, qP, qK, qD⟩ := q; exact ⟨q0, q1, qP, va_K.moved (u := U) (U := U.calling g mk a) (Vm.Alike.refl U.vm) qK, qD⟩, va_recv hKc hPc (ci := 11) (q0 := 0) rfl rfl, fun U hU hW => ⟨rfl, by rw [hU], by rw [hU]; exact hPc, va_K.moved hW.alike hKc, hDc.weaken (fun _ _ _ _ => trivial)⟩⟩ rfl rfl hl.1 rfl (lv_room (Nat.le_of_ble_eq_true rfl)) dL_law_1712 ⟨Nat.le_of_ble_eq_true rfl, Nat.le_of_ble_eq_true rfl⟩)) (fun r_3 hr_3 => ?_)
  obtain rfl : r_3 = (-2) := hr_3
  refine lv_aload_n hx hb dL_law_1715 rfl (lv_at hl 1 rfl) ?_
  refine lv_aload_n hx hb dL_law_1716 rfl (lv_at hl 3 rfl) ?_
  refine lv_iload_n hx hb dL_law_1717 rfl (lv_at hl 0 rfl) ?_
  refine lv_iconst (v := 1) hx hb dL_law_1718 (by decide) ?_
  refine lv_iadd hx hb dL_law_1719 ?_
  refine lv_topi (fun f_4 ef_4 => ?_)
  obtain rfl : (1 : Int32) = f_4 := (ef_4.trans (by decide)).symm
  refine va_sld hx hb hX hbl hbA hS (vp_in_nI (n := 1) (N := 5) (by decide) (by decide)) dL_law_1720 ?_
  refine lv_aload_n hx hb dL_law_1721 rfl (lv_at hl 3 rfl) ?_
  refine lv_iload_n hx hb dL_law_1722 rfl (lv_at hl 0 rfl) ?_
  refine lv_iconst (v := 2) hx hb dL_law_1723 (by decide) ?_
  refine lv_iadd hx hb dL_law_1724 ?_
  refine lv_topi (fun f_5 ef_5 => ?_)
  obtain rfl : (2 : Int32) = f_5 := (ef_5.trans (by decide)).symm
  refine va_sld hx hb hX hbl hbA hS (vp_in_nI (n := 2) (N := 5) (by decide) (by decide)) dL_law_1725 ?_
  have hPc := hP.sub (ws' := [(m0, .inr (12, (fsM gm)))]) [8] rfl
  have hDc := hD.sub (ws' := [(m0, .inr (12, (fsM gm)))]) [8] (by decide) rfl
  have hKc := hK
  refine vp_callSi (va_Run.run (va_runV (As := [.int (xs (1 : Int32).toNatClampNeg), .int (xs (2 : Int32).toNatClampNeg)]) (rest := [.int (-2)]) ⟨hx, hb, hml, hown, hts⟩ (c_X12_doubt l dC dI cI cB cZ cJ cC cP cV cT cO H.size m0 gm (xs (1 : Int32).toNatClampNeg) (xs (2 : Int32).toNatClampNeg)) (cwV 2 hts gq_L_law_X12_doubt_203 rfl rfl rfl (by decide +kernel) ⟨Nat.le_of_ble_eq_true rfl, Nat.le_of_ble_eq_true rfl⟩) ⟨fun a U g mk q => by obtain ⟨q0, q1, qP, qK, qD⟩ := q; exact ⟨q0, q1, qP, va_K.moved (u := U) (U := U.calling g mk a) (Vm.Alike.refl U.vm) qK, qD⟩, va_recv hKc hPc (ci := 12) (q0 := 0) rfl rfl, fun U hU hW => ⟨rfl, by rw [hU], by rw [hU]; exact hPc, va_K.moved hW.alike hKc, hDc.weaken (fun _ _ _ _ => trivial)⟩⟩ rfl rfl hl.1 rfl (lv_room (Nat.le_of_ble_eq_true rfl)) dL_law_1726 ⟨Nat.le_of_ble_eq_true rfl, Nat.le_of_ble_eq_true rfl⟩)) (fun r_6 hr_6 => ?_)
  obtain rfl : r_6 = (-2) := hr_6
  refine lv_icmp_eq (tgt := 1979) hx hb dL_law_1729 (by decide) (fun _ => ?_) (fun c_7 => absurd (by decide) c_7)
  exact law_tail l C0 hA hAl rfl hS (Nat.le_of_ble_eq_true rfl) (Nat.le_of_ble_eq_true rfl) x0 m0 ls (lv_sub hl [0, 1, 2, 3] rfl)
set_option maxHeartbeats 40000000 in
set_option maxRecDepth 100000 in
theorem law_case_45 {p : Program} {e : Env} {s : State} {m : MethodId} {below : List Frame} {meth : Method} {c : Code} (l : Launch) {b L : Nat} {xs : Nat → Int32} (C0 : lw_At p s m meth c b L xs) {A : Nat → Prop} (hA : ∀ q : Nat, s.heap.size ≤ q → A q) (hAl : ∀ q : Nat, A q → s.heap.size ≤ q) (hL : L = 5) (dC : Nat → ClassId) (dI : Nat → Nat → Nat) (cI cB cZ cJ cC cP cV cT cO : ClassId) (x0 m0 : Nat) (g tf tq tt gm : Nat → Nat) (hK : va_K (dC, dI) vwCl [(cI, .int), (cB, .byte), (cZ, .boolean), (cJ, .long), (cC, .char), (cP, .object "DiskEvidence$Picture"), (cV, .object "DiskEvidence$Volume"), (cT, .object "DiskEvidence$Tree"), (cO, .object "DiskEvidence$Opening")] s) {H : Heap} {locs : List Loc} (hP : va_P (dC, dI) vwCl [(x0, .inr (11, (fsX g))), ((g 0), .inl (cB, 4000, (.inl (fun _ => 0)))), ((g 3), .inl (cP, 6, (.inr (.inr (.inr (.inr (fun _ => none))))))), ((g 14), .inr (0, (fs0 tf))), ((g 15), .inr (6, (fs6 tq))), ((g 16), .inr (8, (fs8 tt))), ((g 17), .inl (cI, 300, (.inl (fun _ => 0)))), ((g 18), .inl (cJ, 100, (.inr (.inl (fun _ => 0))))), (m0, .inr (12, (fsM gm))), ((gm 1), .inl (cI, 4000, (.inl (fun _ => 0)))), ((gm 4), .inl (cI, 6, (.inl (fun _ => 0)))), ((gm 5), .inl (cI, 49152, (.inl (fun _ => 0)))), ((gm 6), .inl (cZ, 768, (.inl (fun _ => 0)))), ((gm 168), .inl (cI, 100, (.inl (fun _ => 0)))), ((gm 169), .inl (cI, 100, (.inl (fun _ => 0)))), ((gm 170), .inl (cI, 100, (.inl (fun _ => 0)))), ((gm 171), .inl (cJ, 100, (.inr (.inl (fun _ => 0)))))] H) (hD : va_D A [(x0, .inr (11, (fsX g))), ((g 0), .inl (cB, 4000, (.inl (fun _ => 0)))), ((g 3), .inl (cP, 6, (.inr (.inr (.inr (.inr (fun _ => none))))))), ((g 14), .inr (0, (fs0 tf))), ((g 15), .inr (6, (fs6 tq))), ((g 16), .inr (8, (fs8 tt))), ((g 17), .inl (cI, 300, (.inl (fun _ => 0)))), ((g 18), .inl (cJ, 100, (.inr (.inl (fun _ => 0))))), (m0, .inr (12, (fsM gm))), ((gm 1), .inl (cI, 4000, (.inl (fun _ => 0)))), ((gm 4), .inl (cI, 6, (.inl (fun _ => 0)))), ((gm 5), .inl (cI, 49152, (.inl (fun _ => 0)))), ((gm 6), .inl (cZ, 768, (.inl (fun _ => 0)))), ((gm 168), .inl (cI, 100, (.inl (fun _ => 0)))), ((gm 169), .inl (cI, 100, (.inl (fun _ => 0)))), ((gm 170), .inl (cI, 100, (.inl (fun _ => 0)))), ((gm 171), .inl (cJ, 100, (.inr (.inl (fun _ => 0)))))]) (hS : va_S A s.heap H locs) (ls : Array Slot) (hl : lv_has ls 4 [(3, .int 0), (2, .ref m0), (1, .ref x0), (0, .ref b)]) : W p l e room_1 s m #[Value.ref b] below meth c H locs 147 815844 (lw_Z below #[Value.ref b] s) (F0 m 1734 ls []) := by
  subst hL
  obtain ⟨hx, hb, hr, hml, hown, hts, hX, hbl, hlocks, hgv⟩ := id C0
  have hown : s.vm.findClass RL = some m.cls := hown
  have hbA : ¬ A b := fun h => absurd (hAl b h) (Nat.not_le.mpr hbl)
  refine lv_aload_n hx hb dL_law_1734 rfl (lv_at hl 2 rfl) ?_
  refine lv_aload_n hx hb dL_law_1735 rfl (lv_at hl 3 rfl) ?_
  refine lv_iload_n hx hb dL_law_1736 rfl (lv_at hl 0 rfl) ?_
  refine lv_iconst (v := 1) hx hb dL_law_1737 (by decide) ?_
  refine lv_iadd hx hb dL_law_1738 ?_
  refine lv_topi (fun f_1 ef_1 => ?_)
  obtain rfl : (1 : Int32) = f_1 := (ef_1.trans (by decide)).symm
  refine va_sld hx hb hX hbl hbA hS (vp_in_nI (n := 1) (N := 5) (by decide) (by decide)) dL_law_1739 ?_
  refine lv_aload_n hx hb dL_law_1740 rfl (lv_at hl 3 rfl) ?_
  refine lv_iload_n hx hb dL_law_1741 rfl (lv_at hl 0 rfl) ?_
  refine lv_iconst (v := 2) hx hb dL_law_1742 (by decide) ?_
  refine lv_iadd hx hb dL_law_1743 ?_
  refine lv_topi (fun f_2 ef_2 => ?_)
  obtain rfl : (2 : Int32) = f_2 := (ef_2.trans (by decide)).symm
  refine va_sld hx hb hX hbl hbA hS (vp_in_nI (n := 2) (N := 5) (by decide) (by decide)) dL_law_1744 ?_
  refine lv_aload_n hx hb dL_law_1745 rfl (lv_at hl 3 rfl) ?_
  refine lv_iload_n hx hb dL_law_1746 rfl (lv_at hl 0 rfl) ?_
  refine lv_iconst (v := 3) hx hb dL_law_1747 (by decide) ?_
  refine lv_iadd hx hb dL_law_1748 ?_
  refine lv_topi (fun f_3 ef_3 => ?_)
  obtain rfl : (3 : Int32) = f_3 := (ef_3.trans (by decide)).symm
  refine va_sld hx hb hX hbl hbA hS (vp_in_nI (n := 3) (N := 5) (by decide) (by decide)) dL_law_1749 ?_
  refine lv_aload_n hx hb dL_law_1750 rfl (lv_at hl 3 rfl) ?_
  refine lv_iload_n hx hb dL_law_1751 rfl (lv_at hl 0 rfl) ?_
  refine lv_iconst (v := 4) hx hb dL_law_1752 (by decide) ?_
  refine lv_iadd hx hb dL_law_1753 ?_
  refine lv_topi (fun f_4 ef_4 => ?_)
  obtain rfl : (4 : Int32) = f_4 := (ef_4.trans (by decide)).symm
  refine va_sld hx hb hX hbl hbA hS (vp_in_nI (n := 4) (N := 5) (by decide) (by decide)) dL_law_1754 ?_
  have hPc := hP.sub (ws' := [(x0, .inr (11, (fsX g)))]) [0] rfl
  have hDc := hD.sub (ws' := [(x0, .inr (11, (fsX g)))]) [0] (by decide) rfl
  have hKc := hK
  refine vp_callSi (va_Run.run (va_runV (As := [.int (xs (1 : Int32).toNatClampNeg), .int (xs (2 : Int32).toNatClampNeg), .int (xs (3 : Int32).toNatClampNeg), .int (xs (4 : Int32).toNatClampNeg)]) (rest := []) ⟨hx, hb, hml, hown, hts⟩ (c_X11_claim l dC dI cI cB cZ cJ cC cP cV cT cO H.size x0 g (xs (1 : Int32).toNatClampNeg) (xs (2 : Int32).toNatClampNeg) (xs (3 : Int32).toNatClampNeg) (xs (4 : Int32).toNatClampNeg)) (cwV 4 hts gq_L_law_X11_claim_204 rfl rfl rfl (by decide +kernel) ⟨Nat.le_of_ble_eq_true rfl, Nat.le_of_ble_eq_true rfl⟩) ⟨fun a U g mk q => by obtain ⟨q0, q1, qP, qK, qD⟩ := q; exact ⟨q0, q1, qP, va_K.moved (u := U) (U := U.calling g mk a) (Vm.Alike.refl U.vm) qK, qD⟩, va_recv hKc hPc (ci := 11) (q0 := 0) rfl rfl, fun U hU hW => ⟨rfl, by rw [hU], by rw [hU]; exact hPc, va_K.moved hW.alike hKc, hDc.weaken (fun _ _ _ _ => trivial)⟩⟩ rfl rfl hl.1 rfl (lv_room (Nat.le_of_ble_eq_true rfl)) dL_law_1755 ⟨Nat.le_of_ble_eq_true rfl, Nat.le_of_ble_eq_true rfl⟩)) (fun r_5 hr_5 => ?_)
  obtain rfl : r_5 = (-2) := hr_5
  refine lv_aload_n hx hb dL_law_1758 rfl (lv_at hl 1 rfl) ?_
  refine lv_aload_n hx hb dL_law_1759 rfl (lv_at hl 3 rfl) ?_
  refine lv_iload_n hx hb dL_law_1760 rfl (lv_at hl 0 rfl) ?_
  refine lv_iconst (v := 1) hx hb dL_law_1761 (by decide) ?_
  refine lv_iadd hx hb dL_law_1762 ?_
  refine lv_topi (fun f_6 ef_6 => ?_)
  obtain rfl : (1 : Int32) = f_6 := (ef_6.trans (by decide)).symm
  refine va_sld hx hb hX hbl hbA hS (vp_in_nI (n := 1) (N := 5) (by decide) (by decide)) dL_law_1763 ?_
  refine lv_aload_n hx hb dL_law_1764 rfl (lv_at hl 3 rfl) ?_
  refine lv_iload_n hx hb dL_law_1765 rfl (lv_at hl 0 rfl) ?_
  refine lv_iconst (v := 2) hx hb dL_law_1766 (by decide) ?_
  refine lv_iadd hx hb dL_law_1767 ?_
  refine lv_topi (fun f_7 ef_7 => ?_)
  obtain rfl : (2 : Int32) = f_7 := (ef_7.trans (by decide)).symm
  refine va_sld hx hb hX hbl hbA hS (vp_in_nI (n := 2) (N := 5) (by decide) (by decide)) dL_law_1768 ?_
  refine lv_aload_n hx hb dL_law_1769 rfl (lv_at hl 3 rfl) ?_
  refine lv_iload_n hx hb dL_law_1770 rfl (lv_at hl 0 rfl) ?_
  refine lv_iconst (v := 3) hx hb dL_law_1771 (by decide) ?_
  refine lv_iadd hx hb dL_law_1772 ?_
  refine lv_topi (fun f_8 ef_8 => ?_)
  obtain rfl : (3 : Int32) = f_8 := (ef_8.trans (by decide)).symm
  refine va_sld hx hb hX hbl hbA hS (vp_in_nI (n := 3) (N := 5) (by decide) (by decide)) dL_law_1773 ?_
  refine lv_aload_n hx hb dL_law_1774 rfl (lv_at hl 3 rfl) ?_
  refine lv_iload_n hx hb dL_law_1775 rfl (lv_at hl 0 rfl) ?_
  refine lv_iconst (v := 4) hx hb dL_law_1776 (by decide) ?_
  refine lv_iadd hx hb dL_law_1777 ?_
  refine lv_topi (fun f_9 ef_9 => ?_)
  obtain rfl : (4 : Int32) = f_9 := (ef_9.trans (by decide)).symm
  refine va_sld hx hb hX hbl hbA hS (vp_in_nI (n := 4) (N := 5) (by decide) (by decide)) dL_law_1778 ?_
  have hPc := hP.sub (ws' := [(m0, .inr (12, (fsM gm)))]) [8] rfl
  have hDc := hD.sub (ws' := [(m0, .inr (12, (fsM gm)))]) [8] (by decide) rfl
  have hKc := hK
  refine vp_callSi (va_Run.run (va_runV (As := [.int (xs (1 : Int32).toNatClampNeg), .int (xs (2 : Int32).toNatClampNeg), .int (xs (3 : Int32).toNatClampNeg), .int (xs (4 : Int32).toNatClampNeg)]) (rest := [.int (-2)]) ⟨hx, hb, hml, hown, hts⟩ (c_X12_claim l dC dI cI cB cZ cJ cC cP cV cT cO H.size m0 gm (xs (1 : Int32).toNatClampNeg) (xs (2 : Int32).toNatClampNeg) (xs (3 : Int32).toNatClampNeg) (xs (4 : Int32).toNatClampNeg)) (cwV 4 hts gq_L_law_X12_claim_207 rfl rfl rfl (by decide +kernel) ⟨Nat.le_of_ble_eq_true rfl, Nat.le_of_ble_eq_true rfl⟩) ⟨fun a U g mk q => by obtain ⟨q0, q1, qP, qK, qD⟩ := q; exact ⟨q0, q1, qP, va_K.moved (u := U) (U := U.calling g mk a) (Vm.Alike.refl U.vm) qK, qD⟩, va_recv hKc hPc (ci := 12) (q0 := 0) rfl rfl, fun U hU hW => ⟨rfl, by rw [hU], by rw [hU]; exact hPc, va_K.moved hW.alike hKc, hDc.weaken (fun _ _ _ _ => trivial)⟩⟩ rfl rfl hl.1 rfl (lv_room (Nat.le_of_ble_eq_true rfl)) dL_law_1779 ⟨Nat.le_of_ble_eq_true rfl, Nat.le_of_ble_eq_true rfl⟩)) (fun r_10 hr_10 => ?_)
  obtain rfl : r_10 = (-2) := hr_10
  refine lv_icmp_eq (tgt := 1979) hx hb dL_law_1782 (by decide) (fun _ => ?_) (fun c_11 => absurd (by decide) c_11)
  exact law_tail l C0 hA hAl rfl hS (Nat.le_of_ble_eq_true rfl) (Nat.le_of_ble_eq_true rfl) x0 m0 ls (lv_sub hl [0, 1, 2, 3] rfl)
set_option maxHeartbeats 40000000 in
set_option maxRecDepth 100000 in
theorem law_case_46 {p : Program} {e : Env} {s : State} {m : MethodId} {below : List Frame} {meth : Method} {c : Code} (l : Launch) {b L : Nat} {xs : Nat → Int32} (C0 : lw_At p s m meth c b L xs) {A : Nat → Prop} (hA : ∀ q : Nat, s.heap.size ≤ q → A q) (hAl : ∀ q : Nat, A q → s.heap.size ≤ q) (hL : L = 5) (dC : Nat → ClassId) (dI : Nat → Nat → Nat) (cI cB cZ cJ cC cP cV cT cO : ClassId) (x0 m0 : Nat) (g tf tq tt gm : Nat → Nat) (hK : va_K (dC, dI) vwCl [(cI, .int), (cB, .byte), (cZ, .boolean), (cJ, .long), (cC, .char), (cP, .object "DiskEvidence$Picture"), (cV, .object "DiskEvidence$Volume"), (cT, .object "DiskEvidence$Tree"), (cO, .object "DiskEvidence$Opening")] s) {H : Heap} {locs : List Loc} (hP : va_P (dC, dI) vwCl [(x0, .inr (11, (fsX g))), ((g 0), .inl (cB, 4000, (.inl (fun _ => 0)))), ((g 3), .inl (cP, 6, (.inr (.inr (.inr (.inr (fun _ => none))))))), ((g 14), .inr (0, (fs0 tf))), ((g 15), .inr (6, (fs6 tq))), ((g 16), .inr (8, (fs8 tt))), ((g 17), .inl (cI, 300, (.inl (fun _ => 0)))), ((g 18), .inl (cJ, 100, (.inr (.inl (fun _ => 0))))), (m0, .inr (12, (fsM gm))), ((gm 1), .inl (cI, 4000, (.inl (fun _ => 0)))), ((gm 4), .inl (cI, 6, (.inl (fun _ => 0)))), ((gm 5), .inl (cI, 49152, (.inl (fun _ => 0)))), ((gm 6), .inl (cZ, 768, (.inl (fun _ => 0)))), ((gm 168), .inl (cI, 100, (.inl (fun _ => 0)))), ((gm 169), .inl (cI, 100, (.inl (fun _ => 0)))), ((gm 170), .inl (cI, 100, (.inl (fun _ => 0)))), ((gm 171), .inl (cJ, 100, (.inr (.inl (fun _ => 0)))))] H) (hD : va_D A [(x0, .inr (11, (fsX g))), ((g 0), .inl (cB, 4000, (.inl (fun _ => 0)))), ((g 3), .inl (cP, 6, (.inr (.inr (.inr (.inr (fun _ => none))))))), ((g 14), .inr (0, (fs0 tf))), ((g 15), .inr (6, (fs6 tq))), ((g 16), .inr (8, (fs8 tt))), ((g 17), .inl (cI, 300, (.inl (fun _ => 0)))), ((g 18), .inl (cJ, 100, (.inr (.inl (fun _ => 0))))), (m0, .inr (12, (fsM gm))), ((gm 1), .inl (cI, 4000, (.inl (fun _ => 0)))), ((gm 4), .inl (cI, 6, (.inl (fun _ => 0)))), ((gm 5), .inl (cI, 49152, (.inl (fun _ => 0)))), ((gm 6), .inl (cZ, 768, (.inl (fun _ => 0)))), ((gm 168), .inl (cI, 100, (.inl (fun _ => 0)))), ((gm 169), .inl (cI, 100, (.inl (fun _ => 0)))), ((gm 170), .inl (cI, 100, (.inl (fun _ => 0)))), ((gm 171), .inl (cJ, 100, (.inr (.inl (fun _ => 0)))))]) (hS : va_S A s.heap H locs) (ls : Array Slot) (hl : lv_has ls 4 [(3, .int 0), (2, .ref m0), (1, .ref x0), (0, .ref b)]) : W p l e room_1 s m #[Value.ref b] below meth c H locs 147 815844 (lw_Z below #[Value.ref b] s) (F0 m 1787 ls []) := by
  subst hL
  obtain ⟨hx, hb, hr, hml, hown, hts, hX, hbl, hlocks, hgv⟩ := id C0
  have hown : s.vm.findClass RL = some m.cls := hown
  have hbA : ¬ A b := fun h => absurd (hAl b h) (Nat.not_le.mpr hbl)
  refine lv_aload_n hx hb dL_law_1787 rfl (lv_at hl 2 rfl) ?_
  refine lv_aload_n hx hb dL_law_1788 rfl (lv_at hl 3 rfl) ?_
  refine lv_iload_n hx hb dL_law_1789 rfl (lv_at hl 0 rfl) ?_
  refine lv_iconst (v := 1) hx hb dL_law_1790 (by decide) ?_
  refine lv_iadd hx hb dL_law_1791 ?_
  refine lv_topi (fun f_1 ef_1 => ?_)
  obtain rfl : (1 : Int32) = f_1 := (ef_1.trans (by decide)).symm
  refine va_sld hx hb hX hbl hbA hS (vp_in_nI (n := 1) (N := 5) (by decide) (by decide)) dL_law_1792 ?_
  refine lv_aload_n hx hb dL_law_1793 rfl (lv_at hl 3 rfl) ?_
  refine lv_iload_n hx hb dL_law_1794 rfl (lv_at hl 0 rfl) ?_
  refine lv_iconst (v := 2) hx hb dL_law_1795 (by decide) ?_
  refine lv_iadd hx hb dL_law_1796 ?_
  refine lv_topi (fun f_2 ef_2 => ?_)
  obtain rfl : (2 : Int32) = f_2 := (ef_2.trans (by decide)).symm
  refine va_sld hx hb hX hbl hbA hS (vp_in_nI (n := 2) (N := 5) (by decide) (by decide)) dL_law_1797 ?_
  have hPc := hP.sub (ws' := [(x0, .inr (11, (fsX g)))]) [0] rfl
  have hDc := hD.sub (ws' := [(x0, .inr (11, (fsX g)))]) [0] (by decide) rfl
  have hKc := hK
  refine vp_callSi (va_Run.run (va_runV (As := [.int (xs (1 : Int32).toNatClampNeg), .int (xs (2 : Int32).toNatClampNeg)]) (rest := []) ⟨hx, hb, hml, hown, hts⟩ (c_X11_claimed l dC dI cI cB cZ cJ cC cP cV cT cO H.size x0 g (xs (1 : Int32).toNatClampNeg) (xs (2 : Int32).toNatClampNeg)) (cwV 2 hts gq_L_law_X11_claimed_208 rfl rfl rfl (by decide +kernel) ⟨Nat.le_of_ble_eq_true rfl, Nat.le_of_ble_eq_true rfl⟩) ⟨fun a U g mk q => by obtain ⟨q0, q1, qP, qK, qD⟩ := q; exact ⟨q0, q1, qP, va_K.moved (u := U) (U := U.calling g mk a) (Vm.Alike.refl U.vm) qK, qD⟩, va_recv hKc hPc (ci := 11) (q0 := 0) rfl rfl, fun U hU hW => ⟨rfl, by rw [hU], by rw [hU]; exact hPc, va_K.moved hW.alike hKc, hDc.weaken (fun _ _ _ _ => trivial)⟩⟩ rfl rfl hl.1 rfl (lv_room (Nat.le_of_ble_eq_true rfl)) dL_law_1798 ⟨Nat.le_of_ble_eq_true rfl, Nat.le_of_ble_eq_true rfl⟩)) (fun r_3 hr_3 => ?_)
  obtain rfl : r_3 = (-2) := hr_3
  refine lv_aload_n hx hb dL_law_1801 rfl (lv_at hl 1 rfl) ?_
  refine lv_aload_n hx hb dL_law_1802 rfl (lv_at hl 3 rfl) ?_
  refine lv_iload_n hx hb dL_law_1803 rfl (lv_at hl 0 rfl) ?_
  refine lv_iconst (v := 1) hx hb dL_law_1804 (by decide) ?_
  refine lv_iadd hx hb dL_law_1805 ?_
  refine lv_topi (fun f_4 ef_4 => ?_)
  obtain rfl : (1 : Int32) = f_4 := (ef_4.trans (by decide)).symm
  refine va_sld hx hb hX hbl hbA hS (vp_in_nI (n := 1) (N := 5) (by decide) (by decide)) dL_law_1806 ?_
  refine lv_aload_n hx hb dL_law_1807 rfl (lv_at hl 3 rfl) ?_
  refine lv_iload_n hx hb dL_law_1808 rfl (lv_at hl 0 rfl) ?_
  refine lv_iconst (v := 2) hx hb dL_law_1809 (by decide) ?_
  refine lv_iadd hx hb dL_law_1810 ?_
  refine lv_topi (fun f_5 ef_5 => ?_)
  obtain rfl : (2 : Int32) = f_5 := (ef_5.trans (by decide)).symm
  refine va_sld hx hb hX hbl hbA hS (vp_in_nI (n := 2) (N := 5) (by decide) (by decide)) dL_law_1811 ?_
  have hPc := hP.sub (ws' := [(m0, .inr (12, (fsM gm)))]) [8] rfl
  have hDc := hD.sub (ws' := [(m0, .inr (12, (fsM gm)))]) [8] (by decide) rfl
  have hKc := hK
  refine vp_callSi (va_Run.run (va_runV (As := [.int (xs (1 : Int32).toNatClampNeg), .int (xs (2 : Int32).toNatClampNeg)]) (rest := [.int (-2)]) ⟨hx, hb, hml, hown, hts⟩ (c_X12_claimed l dC dI cI cB cZ cJ cC cP cV cT cO H.size m0 gm (xs (1 : Int32).toNatClampNeg) (xs (2 : Int32).toNatClampNeg)) (cwV 2 hts gq_L_law_X12_claimed_211 rfl rfl rfl (by decide +kernel) ⟨Nat.le_of_ble_eq_true rfl, Nat.le_of_ble_eq_true rfl⟩) ⟨fun a U g mk q => by obtain ⟨q0, q1, qP, qK, qD⟩ := q; exact ⟨q0, q1, qP, va_K.moved (u := U) (U := U.calling g mk a) (Vm.Alike.refl U.vm) qK, qD⟩, va_recv hKc hPc (ci := 12) (q0 := 0) rfl rfl, fun U hU hW => ⟨rfl, by rw [hU], by rw [hU]; exact hPc, va_K.moved hW.alike hKc, hDc.weaken (fun _ _ _ _ => trivial)⟩⟩ rfl rfl hl.1 rfl (lv_room (Nat.le_of_ble_eq_true rfl)) dL_law_1812 ⟨Nat.le_of_ble_eq_true rfl, Nat.le_of_ble_eq_true rfl⟩)) (fun r_6 hr_6 => ?_)
  obtain rfl : r_6 = (-2) := hr_6
  refine lv_icmp_eq (tgt := 1979) hx hb dL_law_1815 (by decide) (fun _ => ?_) (fun c_7 => absurd (by decide) c_7)
  exact law_tail l C0 hA hAl rfl hS (Nat.le_of_ble_eq_true rfl) (Nat.le_of_ble_eq_true rfl) x0 m0 ls (lv_sub hl [0, 1, 2, 3] rfl)
set_option maxHeartbeats 40000000 in
set_option maxRecDepth 100000 in
theorem law_case_47 {p : Program} {e : Env} {s : State} {m : MethodId} {below : List Frame} {meth : Method} {c : Code} (l : Launch) {b L : Nat} {xs : Nat → Int32} (C0 : lw_At p s m meth c b L xs) {A : Nat → Prop} (hA : ∀ q : Nat, s.heap.size ≤ q → A q) (hAl : ∀ q : Nat, A q → s.heap.size ≤ q) (hL : L = 5) (dC : Nat → ClassId) (dI : Nat → Nat → Nat) (cI cB cZ cJ cC cP cV cT cO : ClassId) (x0 m0 : Nat) (g tf tq tt gm : Nat → Nat) (hK : va_K (dC, dI) vwCl [(cI, .int), (cB, .byte), (cZ, .boolean), (cJ, .long), (cC, .char), (cP, .object "DiskEvidence$Picture"), (cV, .object "DiskEvidence$Volume"), (cT, .object "DiskEvidence$Tree"), (cO, .object "DiskEvidence$Opening")] s) {H : Heap} {locs : List Loc} (hP : va_P (dC, dI) vwCl [(x0, .inr (11, (fsX g))), ((g 0), .inl (cB, 4000, (.inl (fun _ => 0)))), ((g 3), .inl (cP, 6, (.inr (.inr (.inr (.inr (fun _ => none))))))), ((g 14), .inr (0, (fs0 tf))), ((g 15), .inr (6, (fs6 tq))), ((g 16), .inr (8, (fs8 tt))), ((g 17), .inl (cI, 300, (.inl (fun _ => 0)))), ((g 18), .inl (cJ, 100, (.inr (.inl (fun _ => 0))))), (m0, .inr (12, (fsM gm))), ((gm 1), .inl (cI, 4000, (.inl (fun _ => 0)))), ((gm 4), .inl (cI, 6, (.inl (fun _ => 0)))), ((gm 5), .inl (cI, 49152, (.inl (fun _ => 0)))), ((gm 6), .inl (cZ, 768, (.inl (fun _ => 0)))), ((gm 168), .inl (cI, 100, (.inl (fun _ => 0)))), ((gm 169), .inl (cI, 100, (.inl (fun _ => 0)))), ((gm 170), .inl (cI, 100, (.inl (fun _ => 0)))), ((gm 171), .inl (cJ, 100, (.inr (.inl (fun _ => 0)))))] H) (hD : va_D A [(x0, .inr (11, (fsX g))), ((g 0), .inl (cB, 4000, (.inl (fun _ => 0)))), ((g 3), .inl (cP, 6, (.inr (.inr (.inr (.inr (fun _ => none))))))), ((g 14), .inr (0, (fs0 tf))), ((g 15), .inr (6, (fs6 tq))), ((g 16), .inr (8, (fs8 tt))), ((g 17), .inl (cI, 300, (.inl (fun _ => 0)))), ((g 18), .inl (cJ, 100, (.inr (.inl (fun _ => 0))))), (m0, .inr (12, (fsM gm))), ((gm 1), .inl (cI, 4000, (.inl (fun _ => 0)))), ((gm 4), .inl (cI, 6, (.inl (fun _ => 0)))), ((gm 5), .inl (cI, 49152, (.inl (fun _ => 0)))), ((gm 6), .inl (cZ, 768, (.inl (fun _ => 0)))), ((gm 168), .inl (cI, 100, (.inl (fun _ => 0)))), ((gm 169), .inl (cI, 100, (.inl (fun _ => 0)))), ((gm 170), .inl (cI, 100, (.inl (fun _ => 0)))), ((gm 171), .inl (cJ, 100, (.inr (.inl (fun _ => 0)))))]) (hS : va_S A s.heap H locs) (ls : Array Slot) (hl : lv_has ls 4 [(3, .int 0), (2, .ref m0), (1, .ref x0), (0, .ref b)]) : W p l e room_1 s m #[Value.ref b] below meth c H locs 147 815844 (lw_Z below #[Value.ref b] s) (F0 m 1820 ls []) := by
  subst hL
  obtain ⟨hx, hb, hr, hml, hown, hts, hX, hbl, hlocks, hgv⟩ := id C0
  have hown : s.vm.findClass RL = some m.cls := hown
  have hbA : ¬ A b := fun h => absurd (hAl b h) (Nat.not_le.mpr hbl)
  refine lv_aload_n hx hb dL_law_1820 rfl (lv_at hl 2 rfl) ?_
  refine lv_aload_n hx hb dL_law_1821 rfl (lv_at hl 3 rfl) ?_
  refine lv_iload_n hx hb dL_law_1822 rfl (lv_at hl 0 rfl) ?_
  refine lv_iconst (v := 1) hx hb dL_law_1823 (by decide) ?_
  refine lv_iadd hx hb dL_law_1824 ?_
  refine lv_topi (fun f_1 ef_1 => ?_)
  obtain rfl : (1 : Int32) = f_1 := (ef_1.trans (by decide)).symm
  refine va_sld hx hb hX hbl hbA hS (vp_in_nI (n := 1) (N := 5) (by decide) (by decide)) dL_law_1825 ?_
  have hPc := hP.sub (ws' := [(x0, .inr (11, (fsX g)))]) [0] rfl
  have hDc := hD.sub (ws' := [(x0, .inr (11, (fsX g)))]) [0] (by decide) rfl
  have hKc := hK
  refine vp_callSi (va_Run.run (va_runV (As := [.int (xs (1 : Int32).toNatClampNeg)]) (rest := []) ⟨hx, hb, hml, hown, hts⟩ (c_X11_check l dC dI cI cB cZ cJ cC cP cV cT cO H.size x0 g (xs (1 : Int32).toNatClampNeg)) (cwV 1 hts gq_L_law_X11_check_212 rfl rfl rfl (by decide +kernel) ⟨Nat.le_of_ble_eq_true rfl, Nat.le_of_ble_eq_true rfl⟩) ⟨fun a U g mk q => by obtain ⟨q0, q1, qP, qK, qD⟩ := q; exact ⟨q0, q1, qP, va_K.moved (u := U) (U := U.calling g mk a) (Vm.Alike.refl U.vm) qK, qD⟩, va_recv hKc hPc (ci := 11) (q0 := 0) rfl rfl, fun U hU hW => ⟨rfl, by rw [hU], by rw [hU]; exact hPc, va_K.moved hW.alike hKc, hDc.weaken (fun _ _ _ _ => trivial)⟩⟩ rfl rfl hl.1 rfl (lv_room (Nat.le_of_ble_eq_true rfl)) dL_law_1826 ⟨Nat.le_of_ble_eq_true rfl, Nat.le_of_ble_eq_true rfl⟩)) (fun r_2 hr_2 => ?_)
  obtain rfl : r_2 = (-2) := hr_2
  refine lv_aload_n hx hb dL_law_1829 rfl (lv_at hl 1 rfl) ?_
  refine lv_aload_n hx hb dL_law_1830 rfl (lv_at hl 3 rfl) ?_
  refine lv_iload_n hx hb dL_law_1831 rfl (lv_at hl 0 rfl) ?_
  refine lv_iconst (v := 1) hx hb dL_law_1832 (by decide) ?_
  refine lv_iadd hx hb dL_law_1833 ?_
  refine lv_topi (fun f_3 ef_3 => ?_)
  obtain rfl : (1 : Int32) = f_3 := (ef_3.trans (by decide)).symm
  refine va_sld hx hb hX hbl hbA hS (vp_in_nI (n := 1) (N := 5) (by decide) (by decide)) dL_law_1834 ?_
  have hPc := hP.sub (ws' := [(m0, .inr (12, (fsM gm)))]) [8] rfl
  have hDc := hD.sub (ws' := [(m0, .inr (12, (fsM gm)))]) [8] (by decide) rfl
  have hKc := hK
  refine vp_callSi (va_Run.run (va_runV (As := [.int (xs (1 : Int32).toNatClampNeg)]) (rest := [.int (-2)]) ⟨hx, hb, hml, hown, hts⟩ (c_X12_check l dC dI cI cB cZ cJ cC cP cV cT cO H.size m0 gm (xs (1 : Int32).toNatClampNeg)) (cwV 1 hts gq_L_law_X12_check_215 rfl rfl rfl (by decide +kernel) ⟨Nat.le_of_ble_eq_true rfl, Nat.le_of_ble_eq_true rfl⟩) ⟨fun a U g mk q => by obtain ⟨q0, q1, qP, qK, qD⟩ := q; exact ⟨q0, q1, qP, va_K.moved (u := U) (U := U.calling g mk a) (Vm.Alike.refl U.vm) qK, qD⟩, va_recv hKc hPc (ci := 12) (q0 := 0) rfl rfl, fun U hU hW => ⟨rfl, by rw [hU], by rw [hU]; exact hPc, va_K.moved hW.alike hKc, hDc.weaken (fun _ _ _ _ => trivial)⟩⟩ rfl rfl hl.1 rfl (lv_room (Nat.le_of_ble_eq_true rfl)) dL_law_1835 ⟨Nat.le_of_ble_eq_true rfl, Nat.le_of_ble_eq_true rfl⟩)) (fun r_4 hr_4 => ?_)
  obtain rfl : r_4 = (-2) := hr_4
  refine lv_icmp_eq (tgt := 1979) hx hb dL_law_1838 (by decide) (fun _ => ?_) (fun c_5 => absurd (by decide) c_5)
  exact law_tail l C0 hA hAl rfl hS (Nat.le_of_ble_eq_true rfl) (Nat.le_of_ble_eq_true rfl) x0 m0 ls (lv_sub hl [0, 1, 2, 3] rfl)
set_option maxHeartbeats 40000000 in
set_option maxRecDepth 100000 in
theorem law_case_48 {p : Program} {e : Env} {s : State} {m : MethodId} {below : List Frame} {meth : Method} {c : Code} (l : Launch) {b L : Nat} {xs : Nat → Int32} (C0 : lw_At p s m meth c b L xs) {A : Nat → Prop} (hA : ∀ q : Nat, s.heap.size ≤ q → A q) (hAl : ∀ q : Nat, A q → s.heap.size ≤ q) (hL : L = 5) (dC : Nat → ClassId) (dI : Nat → Nat → Nat) (cI cB cZ cJ cC cP cV cT cO : ClassId) (x0 m0 : Nat) (g tf tq tt gm : Nat → Nat) (hK : va_K (dC, dI) vwCl [(cI, .int), (cB, .byte), (cZ, .boolean), (cJ, .long), (cC, .char), (cP, .object "DiskEvidence$Picture"), (cV, .object "DiskEvidence$Volume"), (cT, .object "DiskEvidence$Tree"), (cO, .object "DiskEvidence$Opening")] s) {H : Heap} {locs : List Loc} (hP : va_P (dC, dI) vwCl [(x0, .inr (11, (fsX g))), ((g 0), .inl (cB, 4000, (.inl (fun _ => 0)))), ((g 3), .inl (cP, 6, (.inr (.inr (.inr (.inr (fun _ => none))))))), ((g 14), .inr (0, (fs0 tf))), ((g 15), .inr (6, (fs6 tq))), ((g 16), .inr (8, (fs8 tt))), ((g 17), .inl (cI, 300, (.inl (fun _ => 0)))), ((g 18), .inl (cJ, 100, (.inr (.inl (fun _ => 0))))), (m0, .inr (12, (fsM gm))), ((gm 1), .inl (cI, 4000, (.inl (fun _ => 0)))), ((gm 4), .inl (cI, 6, (.inl (fun _ => 0)))), ((gm 5), .inl (cI, 49152, (.inl (fun _ => 0)))), ((gm 6), .inl (cZ, 768, (.inl (fun _ => 0)))), ((gm 168), .inl (cI, 100, (.inl (fun _ => 0)))), ((gm 169), .inl (cI, 100, (.inl (fun _ => 0)))), ((gm 170), .inl (cI, 100, (.inl (fun _ => 0)))), ((gm 171), .inl (cJ, 100, (.inr (.inl (fun _ => 0)))))] H) (hD : va_D A [(x0, .inr (11, (fsX g))), ((g 0), .inl (cB, 4000, (.inl (fun _ => 0)))), ((g 3), .inl (cP, 6, (.inr (.inr (.inr (.inr (fun _ => none))))))), ((g 14), .inr (0, (fs0 tf))), ((g 15), .inr (6, (fs6 tq))), ((g 16), .inr (8, (fs8 tt))), ((g 17), .inl (cI, 300, (.inl (fun _ => 0)))), ((g 18), .inl (cJ, 100, (.inr (.inl (fun _ => 0))))), (m0, .inr (12, (fsM gm))), ((gm 1), .inl (cI, 4000, (.inl (fun _ => 0)))), ((gm 4), .inl (cI, 6, (.inl (fun _ => 0)))), ((gm 5), .inl (cI, 49152, (.inl (fun _ => 0)))), ((gm 6), .inl (cZ, 768, (.inl (fun _ => 0)))), ((gm 168), .inl (cI, 100, (.inl (fun _ => 0)))), ((gm 169), .inl (cI, 100, (.inl (fun _ => 0)))), ((gm 170), .inl (cI, 100, (.inl (fun _ => 0)))), ((gm 171), .inl (cJ, 100, (.inr (.inl (fun _ => 0)))))]) (hS : va_S A s.heap H locs) (ls : Array Slot) (hl : lv_has ls 4 [(3, .int 0), (2, .ref m0), (1, .ref x0), (0, .ref b)]) : W p l e room_1 s m #[Value.ref b] below meth c H locs 147 815844 (lw_Z below #[Value.ref b] s) (F0 m 1843 ls []) := by
  subst hL
  obtain ⟨hx, hb, hr, hml, hown, hts, hX, hbl, hlocks, hgv⟩ := id C0
  have hown : s.vm.findClass RL = some m.cls := hown
  have hbA : ¬ A b := fun h => absurd (hAl b h) (Nat.not_le.mpr hbl)
  refine lv_aload_n hx hb dL_law_1843 rfl (lv_at hl 2 rfl) ?_
  refine lv_aload_n hx hb dL_law_1844 rfl (lv_at hl 3 rfl) ?_
  refine lv_iload_n hx hb dL_law_1845 rfl (lv_at hl 0 rfl) ?_
  refine lv_iconst (v := 1) hx hb dL_law_1846 (by decide) ?_
  refine lv_iadd hx hb dL_law_1847 ?_
  refine lv_topi (fun f_1 ef_1 => ?_)
  obtain rfl : (1 : Int32) = f_1 := (ef_1.trans (by decide)).symm
  refine va_sld hx hb hX hbl hbA hS (vp_in_nI (n := 1) (N := 5) (by decide) (by decide)) dL_law_1848 ?_
  refine lv_aload_n hx hb dL_law_1849 rfl (lv_at hl 3 rfl) ?_
  refine lv_iload_n hx hb dL_law_1850 rfl (lv_at hl 0 rfl) ?_
  refine lv_iconst (v := 2) hx hb dL_law_1851 (by decide) ?_
  refine lv_iadd hx hb dL_law_1852 ?_
  refine lv_topi (fun f_2 ef_2 => ?_)
  obtain rfl : (2 : Int32) = f_2 := (ef_2.trans (by decide)).symm
  refine va_sld hx hb hX hbl hbA hS (vp_in_nI (n := 2) (N := 5) (by decide) (by decide)) dL_law_1853 ?_
  have hPc := hP.sub (ws' := [(x0, .inr (11, (fsX g))), ((g 17), .inl (cI, 300, (.inl (fun _ => 0)))), ((g 18), .inl (cJ, 100, (.inr (.inl (fun _ => 0)))))]) [0, 6, 7] rfl
  have hDc := hD.sub (ws' := [(x0, .inr (11, (fsX g))), ((g 17), .inl (cI, 300, (.inl (fun _ => 0)))), ((g 18), .inl (cJ, 100, (.inr (.inl (fun _ => 0)))))]) [0, 6, 7] (by decide) rfl
  have hKc := hK
  have hFc := va_free (wc := [(x0, .inr (11, (fsX g))), ((g 17), .inl (cI, 300, (.inl (fun _ => 0)))), ((g 18), .inl (cJ, 100, (.inr (.inl (fun _ => 0)))))]) hD hS hA [0, 6, 7] rfl
  refine va_calli (va_runV (As := [.int (xs (1 : Int32).toNatClampNeg), .int (xs (2 : Int32).toNatClampNeg)]) (rest := []) ⟨hx, hb, hml, hown, hts⟩ (c_X11_act l dC dI cI cB cZ cJ cC cP cV cT cO H.size x0 g (fun _ => 0) (fun _ => 0) (xs (1 : Int32).toNatClampNeg) (xs (2 : Int32).toNatClampNeg)) (cwV 2 hts gq_L_law_X11_act_216 rfl rfl rfl (by decide +kernel) ⟨Nat.le_of_ble_eq_true rfl, Nat.le_of_ble_eq_true rfl⟩) ⟨fun a U g mk q => by obtain ⟨q0, q1, qP, qK, qD⟩ := q; exact ⟨q0, q1, qP, va_K.moved (u := U) (U := U.calling g mk a) (Vm.Alike.refl U.vm) qK, qD⟩, va_recv hKc hPc (ci := 11) (q0 := 0) rfl rfl, fun U hU hW => ⟨rfl, by rw [hU], by rw [hU]; exact hPc, va_K.moved hW.alike hKc, hDc.weaken (fun _ _ _ _ => trivial)⟩⟩ rfl rfl hl.1 rfl (lv_room (Nat.le_of_ble_eq_true rfl)) dL_law_1854 ⟨Nat.le_of_ble_eq_true rfl, Nat.le_of_ble_eq_true rfl⟩) hS (fun q _ h => hFc q h) hFc (fun r_3 u t H1 locs ht hvm hr_3 hB hz1 hk1 hS => ?_)
  obtain ⟨hP, hD⟩ := va_join (wr := [((g 0), .inl (cB, 4000, (.inl (fun _ => 0)))), ((g 3), .inl (cP, 6, (.inr (.inr (.inr (.inr (fun _ => none))))))), ((g 14), .inr (0, (fs0 tf))), ((g 15), .inr (6, (fs6 tq))), ((g 16), .inr (8, (fs8 tt))), (m0, .inr (12, (fsM gm))), ((gm 1), .inl (cI, 4000, (.inl (fun _ => 0)))), ((gm 4), .inl (cI, 6, (.inl (fun _ => 0)))), ((gm 5), .inl (cI, 49152, (.inl (fun _ => 0)))), ((gm 6), .inl (cZ, 768, (.inl (fun _ => 0)))), ((gm 168), .inl (cI, 100, (.inl (fun _ => 0)))), ((gm 169), .inl (cI, 100, (.inl (fun _ => 0)))), ((gm 170), .inl (cI, 100, (.inl (fun _ => 0)))), ((gm 171), .inl (cJ, 100, (.inr (.inl (fun _ => 0)))))]) (w1 := []) hP hD [0, 6, 7] [1, 2, 3, 4, 5, 8, 9, 10, 11, 12, 13, 14, 15, 16] rfl rfl (by decide) (by decide) hk1 hFc nw_P0 nw_D0
  generalize H1 = H at hP hS ⊢
  have hP : va_P (dC, dI) vwCl [((g 0), .inl (cB, 4000, (.inl (fun _ => 0)))), ((g 3), .inl (cP, 6, (.inr (.inr (.inr (.inr (fun _ => none))))))), ((g 14), .inr (0, (fs0 tf))), ((g 15), .inr (6, (fs6 tq))), ((g 16), .inr (8, (fs8 tt))), (m0, .inr (12, (fsM gm))), ((gm 1), .inl (cI, 4000, (.inl (fun _ => 0)))), ((gm 4), .inl (cI, 6, (.inl (fun _ => 0)))), ((gm 5), .inl (cI, 49152, (.inl (fun _ => 0)))), ((gm 6), .inl (cZ, 768, (.inl (fun _ => 0)))), ((gm 168), .inl (cI, 100, (.inl (fun _ => 0)))), ((gm 169), .inl (cI, 100, (.inl (fun _ => 0)))), ((gm 170), .inl (cI, 100, (.inl (fun _ => 0)))), ((gm 171), .inl (cJ, 100, (.inr (.inl (fun _ => 0)))))] H := hP
  have hD : va_D A [((g 0), .inl (cB, 4000, (.inl (fun _ => 0)))), ((g 3), .inl (cP, 6, (.inr (.inr (.inr (.inr (fun _ => none))))))), ((g 14), .inr (0, (fs0 tf))), ((g 15), .inr (6, (fs6 tq))), ((g 16), .inr (8, (fs8 tt))), (m0, .inr (12, (fsM gm))), ((gm 1), .inl (cI, 4000, (.inl (fun _ => 0)))), ((gm 4), .inl (cI, 6, (.inl (fun _ => 0)))), ((gm 5), .inl (cI, 49152, (.inl (fun _ => 0)))), ((gm 6), .inl (cZ, 768, (.inl (fun _ => 0)))), ((gm 168), .inl (cI, 100, (.inl (fun _ => 0)))), ((gm 169), .inl (cI, 100, (.inl (fun _ => 0)))), ((gm 170), .inl (cI, 100, (.inl (fun _ => 0)))), ((gm 171), .inl (cJ, 100, (.inr (.inl (fun _ => 0)))))] := hD
  obtain rfl : r_3 = 0 := hr_3
  refine lv_aload_n hx hb dL_law_1857 rfl (lv_at hl 1 rfl) ?_
  refine lv_aload_n hx hb dL_law_1858 rfl (lv_at hl 3 rfl) ?_
  refine lv_iload_n hx hb dL_law_1859 rfl (lv_at hl 0 rfl) ?_
  refine lv_iconst (v := 1) hx hb dL_law_1860 (by decide) ?_
  refine lv_iadd hx hb dL_law_1861 ?_
  refine lv_topi (fun f_4 ef_4 => ?_)
  obtain rfl : (1 : Int32) = f_4 := (ef_4.trans (by decide)).symm
  refine va_sld hx hb hX hbl hbA hS (vp_in_nI (n := 1) (N := 5) (by decide) (by decide)) dL_law_1862 ?_
  refine lv_aload_n hx hb dL_law_1863 rfl (lv_at hl 3 rfl) ?_
  refine lv_iload_n hx hb dL_law_1864 rfl (lv_at hl 0 rfl) ?_
  refine lv_iconst (v := 2) hx hb dL_law_1865 (by decide) ?_
  refine lv_iadd hx hb dL_law_1866 ?_
  refine lv_topi (fun f_5 ef_5 => ?_)
  obtain rfl : (2 : Int32) = f_5 := (ef_5.trans (by decide)).symm
  refine va_sld hx hb hX hbl hbA hS (vp_in_nI (n := 2) (N := 5) (by decide) (by decide)) dL_law_1867 ?_
  have hPc := hP.sub (ws' := [(m0, .inr (12, (fsM gm))), ((gm 168), .inl (cI, 100, (.inl (fun _ => 0)))), ((gm 169), .inl (cI, 100, (.inl (fun _ => 0)))), ((gm 170), .inl (cI, 100, (.inl (fun _ => 0)))), ((gm 171), .inl (cJ, 100, (.inr (.inl (fun _ => 0)))))]) [5, 10, 11, 12, 13] rfl
  have hDc := hD.sub (ws' := [(m0, .inr (12, (fsM gm))), ((gm 168), .inl (cI, 100, (.inl (fun _ => 0)))), ((gm 169), .inl (cI, 100, (.inl (fun _ => 0)))), ((gm 170), .inl (cI, 100, (.inl (fun _ => 0)))), ((gm 171), .inl (cJ, 100, (.inr (.inl (fun _ => 0)))))]) [5, 10, 11, 12, 13] (by decide) rfl
  have hKc := hK
  have hFc := va_free (wc := [(m0, .inr (12, (fsM gm))), ((gm 168), .inl (cI, 100, (.inl (fun _ => 0)))), ((gm 169), .inl (cI, 100, (.inl (fun _ => 0)))), ((gm 170), .inl (cI, 100, (.inl (fun _ => 0)))), ((gm 171), .inl (cJ, 100, (.inr (.inl (fun _ => 0)))))]) hD hS hA [5, 10, 11, 12, 13] rfl
  refine va_calli (va_runV (As := [.int (xs (1 : Int32).toNatClampNeg), .int (xs (2 : Int32).toNatClampNeg)]) (rest := [.int 0]) ⟨hx, hb, hml, hown, hts⟩ (c_X12_act l dC dI cI cB cZ cJ cC cP cV cT cO H.size m0 gm (fun _ => 0) (fun _ => 0) (fun _ => 0) (fun _ => 0) (xs (1 : Int32).toNatClampNeg) (xs (2 : Int32).toNatClampNeg)) (cwV 2 hts gq_L_law_X12_act_219 rfl rfl rfl (by decide +kernel) ⟨Nat.le_of_ble_eq_true rfl, Nat.le_of_ble_eq_true rfl⟩) ⟨fun a U g mk q => by obtain ⟨q0, q1, qP, qK, qD⟩ := q; exact ⟨q0, q1, qP, va_K.moved (u := U) (U := U.calling g mk a) (Vm.Alike.refl U.vm) qK, qD⟩, va_recv hKc hPc (ci := 12) (q0 := 0) rfl rfl, fun U hU hW => ⟨rfl, by rw [hU], by rw [hU]; exact hPc, va_K.moved hW.alike hKc, hDc.weaken (fun _ _ _ _ => trivial)⟩⟩ rfl rfl hl.1 rfl (lv_room (Nat.le_of_ble_eq_true rfl)) dL_law_1868 ⟨Nat.le_of_ble_eq_true rfl, Nat.le_of_ble_eq_true rfl⟩) hS (fun q _ h => hFc q h) hFc (fun r_6 u t H1 locs ht hvm hr_6 hB hz1 hk1 hS => ?_)
  obtain ⟨hP, hD⟩ := va_join (wr := [((g 0), .inl (cB, 4000, (.inl (fun _ => 0)))), ((g 3), .inl (cP, 6, (.inr (.inr (.inr (.inr (fun _ => none))))))), ((g 14), .inr (0, (fs0 tf))), ((g 15), .inr (6, (fs6 tq))), ((g 16), .inr (8, (fs8 tt))), ((gm 1), .inl (cI, 4000, (.inl (fun _ => 0)))), ((gm 4), .inl (cI, 6, (.inl (fun _ => 0)))), ((gm 5), .inl (cI, 49152, (.inl (fun _ => 0)))), ((gm 6), .inl (cZ, 768, (.inl (fun _ => 0))))]) (w1 := []) hP hD [5, 10, 11, 12, 13] [0, 1, 2, 3, 4, 6, 7, 8, 9] rfl rfl (by decide) (by decide) hk1 hFc nw_P0 nw_D0
  generalize H1 = H at hP hS ⊢
  have hP : va_P (dC, dI) vwCl [((g 0), .inl (cB, 4000, (.inl (fun _ => 0)))), ((g 3), .inl (cP, 6, (.inr (.inr (.inr (.inr (fun _ => none))))))), ((g 14), .inr (0, (fs0 tf))), ((g 15), .inr (6, (fs6 tq))), ((g 16), .inr (8, (fs8 tt))), ((gm 1), .inl (cI, 4000, (.inl (fun _ => 0)))), ((gm 4), .inl (cI, 6, (.inl (fun _ => 0)))), ((gm 5), .inl (cI, 49152, (.inl (fun _ => 0)))), ((gm 6), .inl (cZ, 768, (.inl (fun _ => 0))))] H := hP
  have hD : va_D A [((g 0), .inl (cB, 4000, (.inl (fun _ => 0)))), ((g 3), .inl (cP, 6, (.inr (.inr (.inr (.inr (fun _ => none))))))), ((g 14), .inr (0, (fs0 tf))), ((g 15), .inr (6, (fs6 tq))), ((g 16), .inr (8, (fs8 tt))), ((gm 1), .inl (cI, 4000, (.inl (fun _ => 0)))), ((gm 4), .inl (cI, 6, (.inl (fun _ => 0)))), ((gm 5), .inl (cI, 49152, (.inl (fun _ => 0)))), ((gm 6), .inl (cZ, 768, (.inl (fun _ => 0))))] := hD
  obtain rfl : r_6 = 0 := hr_6
  refine lv_icmp_eq (tgt := 1979) hx hb dL_law_1871 (by decide) (fun _ => ?_) (fun c_7 => absurd (by decide) c_7)
  exact law_tail l C0 hA hAl rfl hS (Nat.le_of_ble_eq_true rfl) (Nat.le_of_ble_eq_true rfl) x0 m0 ls (lv_sub hl [0, 1, 2, 3] rfl)
set_option maxHeartbeats 40000000 in
set_option maxRecDepth 100000 in
theorem law_case_49 {p : Program} {e : Env} {s : State} {m : MethodId} {below : List Frame} {meth : Method} {c : Code} (l : Launch) {b L : Nat} {xs : Nat → Int32} (C0 : lw_At p s m meth c b L xs) {A : Nat → Prop} (hA : ∀ q : Nat, s.heap.size ≤ q → A q) (hAl : ∀ q : Nat, A q → s.heap.size ≤ q) (hL : L = 5) (dC : Nat → ClassId) (dI : Nat → Nat → Nat) (cI cB cZ cJ cC cP cV cT cO : ClassId) (x0 m0 : Nat) (g tf tq tt gm : Nat → Nat) (hK : va_K (dC, dI) vwCl [(cI, .int), (cB, .byte), (cZ, .boolean), (cJ, .long), (cC, .char), (cP, .object "DiskEvidence$Picture"), (cV, .object "DiskEvidence$Volume"), (cT, .object "DiskEvidence$Tree"), (cO, .object "DiskEvidence$Opening")] s) {H : Heap} {locs : List Loc} (hP : va_P (dC, dI) vwCl [(x0, .inr (11, (fsX g))), ((g 0), .inl (cB, 4000, (.inl (fun _ => 0)))), ((g 3), .inl (cP, 6, (.inr (.inr (.inr (.inr (fun _ => none))))))), ((g 14), .inr (0, (fs0 tf))), ((g 15), .inr (6, (fs6 tq))), ((g 16), .inr (8, (fs8 tt))), ((g 17), .inl (cI, 300, (.inl (fun _ => 0)))), ((g 18), .inl (cJ, 100, (.inr (.inl (fun _ => 0))))), (m0, .inr (12, (fsM gm))), ((gm 1), .inl (cI, 4000, (.inl (fun _ => 0)))), ((gm 4), .inl (cI, 6, (.inl (fun _ => 0)))), ((gm 5), .inl (cI, 49152, (.inl (fun _ => 0)))), ((gm 6), .inl (cZ, 768, (.inl (fun _ => 0)))), ((gm 168), .inl (cI, 100, (.inl (fun _ => 0)))), ((gm 169), .inl (cI, 100, (.inl (fun _ => 0)))), ((gm 170), .inl (cI, 100, (.inl (fun _ => 0)))), ((gm 171), .inl (cJ, 100, (.inr (.inl (fun _ => 0)))))] H) (hD : va_D A [(x0, .inr (11, (fsX g))), ((g 0), .inl (cB, 4000, (.inl (fun _ => 0)))), ((g 3), .inl (cP, 6, (.inr (.inr (.inr (.inr (fun _ => none))))))), ((g 14), .inr (0, (fs0 tf))), ((g 15), .inr (6, (fs6 tq))), ((g 16), .inr (8, (fs8 tt))), ((g 17), .inl (cI, 300, (.inl (fun _ => 0)))), ((g 18), .inl (cJ, 100, (.inr (.inl (fun _ => 0))))), (m0, .inr (12, (fsM gm))), ((gm 1), .inl (cI, 4000, (.inl (fun _ => 0)))), ((gm 4), .inl (cI, 6, (.inl (fun _ => 0)))), ((gm 5), .inl (cI, 49152, (.inl (fun _ => 0)))), ((gm 6), .inl (cZ, 768, (.inl (fun _ => 0)))), ((gm 168), .inl (cI, 100, (.inl (fun _ => 0)))), ((gm 169), .inl (cI, 100, (.inl (fun _ => 0)))), ((gm 170), .inl (cI, 100, (.inl (fun _ => 0)))), ((gm 171), .inl (cJ, 100, (.inr (.inl (fun _ => 0)))))]) (hS : va_S A s.heap H locs) (ls : Array Slot) (hl : lv_has ls 4 [(3, .int 0), (2, .ref m0), (1, .ref x0), (0, .ref b)]) : W p l e room_1 s m #[Value.ref b] below meth c H locs 147 815844 (lw_Z below #[Value.ref b] s) (F0 m 1876 ls []) := by
  subst hL
  obtain ⟨hx, hb, hr, hml, hown, hts, hX, hbl, hlocks, hgv⟩ := id C0
  have hown : s.vm.findClass RL = some m.cls := hown
  have hbA : ¬ A b := fun h => absurd (hAl b h) (Nat.not_le.mpr hbl)
  refine lv_aload_n hx hb dL_law_1876 rfl (lv_at hl 2 rfl) ?_
  refine lv_aload_n hx hb dL_law_1877 rfl (lv_at hl 3 rfl) ?_
  refine lv_iload_n hx hb dL_law_1878 rfl (lv_at hl 0 rfl) ?_
  refine lv_iconst (v := 1) hx hb dL_law_1879 (by decide) ?_
  refine lv_iadd hx hb dL_law_1880 ?_
  refine lv_topi (fun f_1 ef_1 => ?_)
  obtain rfl : (1 : Int32) = f_1 := (ef_1.trans (by decide)).symm
  refine va_sld hx hb hX hbl hbA hS (vp_in_nI (n := 1) (N := 5) (by decide) (by decide)) dL_law_1881 ?_
  have hPc := hP.sub (ws' := [(x0, .inr (11, (fsX g)))]) [0] rfl
  have hDc := hD.sub (ws' := [(x0, .inr (11, (fsX g)))]) [0] (by decide) rfl
  have hKc := hK
  refine vp_callSl (va_Run.run (va_runV (As := [.int (xs (1 : Int32).toNatClampNeg)]) (rest := []) ⟨hx, hb, hml, hown, hts⟩ (c_X11_link l dC dI cI cB cZ cJ cC cP cV cT cO H.size x0 g (xs (1 : Int32).toNatClampNeg)) (cwV 1 hts gq_L_law_X11_link_220 rfl rfl rfl (by decide +kernel) ⟨Nat.le_of_ble_eq_true rfl, Nat.le_of_ble_eq_true rfl⟩) ⟨fun a U g mk q => by obtain ⟨q0, q1, qP, qK, qD⟩ := q; exact ⟨q0, q1, qP, va_K.moved (u := U) (U := U.calling g mk a) (Vm.Alike.refl U.vm) qK, qD⟩, va_recv hKc hPc (ci := 11) (q0 := 0) rfl rfl, fun U hU hW => ⟨rfl, by rw [hU], by rw [hU]; exact hPc, va_K.moved hW.alike hKc, hDc.weaken (fun _ _ _ _ => trivial)⟩⟩ rfl rfl hl.1 rfl (lv_room (Nat.le_of_ble_eq_true rfl)) dL_law_1882 ⟨Nat.le_of_ble_eq_true rfl, Nat.le_of_ble_eq_true rfl⟩)) (fun r_2 hr_2 => ?_)
  obtain rfl : r_2 = 0 := hr_2
  refine lv_aload_n hx hb dL_law_1885 rfl (lv_at hl 1 rfl) ?_
  refine lv_aload_n hx hb dL_law_1886 rfl (lv_at hl 3 rfl) ?_
  refine lv_iload_n hx hb dL_law_1887 rfl (lv_at hl 0 rfl) ?_
  refine lv_iconst (v := 1) hx hb dL_law_1888 (by decide) ?_
  refine lv_iadd hx hb dL_law_1889 ?_
  refine lv_topi (fun f_3 ef_3 => ?_)
  obtain rfl : (1 : Int32) = f_3 := (ef_3.trans (by decide)).symm
  refine va_sld hx hb hX hbl hbA hS (vp_in_nI (n := 1) (N := 5) (by decide) (by decide)) dL_law_1890 ?_
  have hPc := hP.sub (ws' := [(m0, .inr (12, (fsM gm)))]) [8] rfl
  have hDc := hD.sub (ws' := [(m0, .inr (12, (fsM gm)))]) [8] (by decide) rfl
  have hKc := hK
  refine vp_callSl (va_Run.run (va_runV (As := [.int (xs (1 : Int32).toNatClampNeg)]) (rest := [.long 0]) ⟨hx, hb, hml, hown, hts⟩ (c_X12_link l dC dI cI cB cZ cJ cC cP cV cT cO H.size m0 gm (xs (1 : Int32).toNatClampNeg)) (cwV 1 hts gq_L_law_X12_link_224 rfl rfl rfl (by decide +kernel) ⟨Nat.le_of_ble_eq_true rfl, Nat.le_of_ble_eq_true rfl⟩) ⟨fun a U g mk q => by obtain ⟨q0, q1, qP, qK, qD⟩ := q; exact ⟨q0, q1, qP, va_K.moved (u := U) (U := U.calling g mk a) (Vm.Alike.refl U.vm) qK, qD⟩, va_recv hKc hPc (ci := 12) (q0 := 0) rfl rfl, fun U hU hW => ⟨rfl, by rw [hU], by rw [hU]; exact hPc, va_K.moved hW.alike hKc, hDc.weaken (fun _ _ _ _ => trivial)⟩⟩ rfl rfl hl.1 rfl (lv_room (Nat.le_of_ble_eq_true rfl)) dL_law_1891 ⟨Nat.le_of_ble_eq_true rfl, Nat.le_of_ble_eq_true rfl⟩)) (fun r_4 hr_4 => ?_)
  obtain rfl : r_4 = 0 := hr_4
  refine W.lcmp hx hb dL_law_1894 ?_
  refine lv_topi (fun f_6 ef_6 => ?_)
  obtain rfl : (0 : Int32) = f_6 := (ef_6.trans (by decide)).symm
  refine lv_if_eq (tgt := 1979) hx hb dL_law_1895 (by decide) (fun _ => ?_) (fun c_7 => absurd (by decide) c_7)
  exact law_tail l C0 hA hAl rfl hS (Nat.le_of_ble_eq_true rfl) (Nat.le_of_ble_eq_true rfl) x0 m0 ls (lv_sub hl [0, 1, 2, 3] rfl)
set_option maxHeartbeats 40000000 in
set_option maxRecDepth 100000 in
theorem law_case_50 {p : Program} {e : Env} {s : State} {m : MethodId} {below : List Frame} {meth : Method} {c : Code} (l : Launch) {b L : Nat} {xs : Nat → Int32} (C0 : lw_At p s m meth c b L xs) {A : Nat → Prop} (hA : ∀ q : Nat, s.heap.size ≤ q → A q) (hAl : ∀ q : Nat, A q → s.heap.size ≤ q) (hL : L = 5) (dC : Nat → ClassId) (dI : Nat → Nat → Nat) (cI cB cZ cJ cC cP cV cT cO : ClassId) (x0 m0 : Nat) (g tf tq tt gm : Nat → Nat) (hK : va_K (dC, dI) vwCl [(cI, .int), (cB, .byte), (cZ, .boolean), (cJ, .long), (cC, .char), (cP, .object "DiskEvidence$Picture"), (cV, .object "DiskEvidence$Volume"), (cT, .object "DiskEvidence$Tree"), (cO, .object "DiskEvidence$Opening")] s) {H : Heap} {locs : List Loc} (hP : va_P (dC, dI) vwCl [(x0, .inr (11, (fsX g))), ((g 0), .inl (cB, 4000, (.inl (fun _ => 0)))), ((g 3), .inl (cP, 6, (.inr (.inr (.inr (.inr (fun _ => none))))))), ((g 14), .inr (0, (fs0 tf))), ((g 15), .inr (6, (fs6 tq))), ((g 16), .inr (8, (fs8 tt))), ((g 17), .inl (cI, 300, (.inl (fun _ => 0)))), ((g 18), .inl (cJ, 100, (.inr (.inl (fun _ => 0))))), (m0, .inr (12, (fsM gm))), ((gm 1), .inl (cI, 4000, (.inl (fun _ => 0)))), ((gm 4), .inl (cI, 6, (.inl (fun _ => 0)))), ((gm 5), .inl (cI, 49152, (.inl (fun _ => 0)))), ((gm 6), .inl (cZ, 768, (.inl (fun _ => 0)))), ((gm 168), .inl (cI, 100, (.inl (fun _ => 0)))), ((gm 169), .inl (cI, 100, (.inl (fun _ => 0)))), ((gm 170), .inl (cI, 100, (.inl (fun _ => 0)))), ((gm 171), .inl (cJ, 100, (.inr (.inl (fun _ => 0)))))] H) (hD : va_D A [(x0, .inr (11, (fsX g))), ((g 0), .inl (cB, 4000, (.inl (fun _ => 0)))), ((g 3), .inl (cP, 6, (.inr (.inr (.inr (.inr (fun _ => none))))))), ((g 14), .inr (0, (fs0 tf))), ((g 15), .inr (6, (fs6 tq))), ((g 16), .inr (8, (fs8 tt))), ((g 17), .inl (cI, 300, (.inl (fun _ => 0)))), ((g 18), .inl (cJ, 100, (.inr (.inl (fun _ => 0))))), (m0, .inr (12, (fsM gm))), ((gm 1), .inl (cI, 4000, (.inl (fun _ => 0)))), ((gm 4), .inl (cI, 6, (.inl (fun _ => 0)))), ((gm 5), .inl (cI, 49152, (.inl (fun _ => 0)))), ((gm 6), .inl (cZ, 768, (.inl (fun _ => 0)))), ((gm 168), .inl (cI, 100, (.inl (fun _ => 0)))), ((gm 169), .inl (cI, 100, (.inl (fun _ => 0)))), ((gm 170), .inl (cI, 100, (.inl (fun _ => 0)))), ((gm 171), .inl (cJ, 100, (.inr (.inl (fun _ => 0)))))]) (hS : va_S A s.heap H locs) (ls : Array Slot) (hl : lv_has ls 4 [(3, .int 0), (2, .ref m0), (1, .ref x0), (0, .ref b)]) : W p l e room_1 s m #[Value.ref b] below meth c H locs 147 815844 (lw_Z below #[Value.ref b] s) (F0 m 1900 ls []) := by
  subst hL
  obtain ⟨hx, hb, hr, hml, hown, hts, hX, hbl, hlocks, hgv⟩ := id C0
  have hown : s.vm.findClass RL = some m.cls := hown
  have hbA : ¬ A b := fun h => absurd (hAl b h) (Nat.not_le.mpr hbl)
  refine lv_aload_n hx hb dL_law_1900 rfl (lv_at hl 2 rfl) ?_
  refine lv_aload_n hx hb dL_law_1901 rfl (lv_at hl 3 rfl) ?_
  refine lv_iload_n hx hb dL_law_1902 rfl (lv_at hl 0 rfl) ?_
  refine lv_iconst (v := 1) hx hb dL_law_1903 (by decide) ?_
  refine lv_iadd hx hb dL_law_1904 ?_
  refine lv_topi (fun f_1 ef_1 => ?_)
  obtain rfl : (1 : Int32) = f_1 := (ef_1.trans (by decide)).symm
  refine va_sld hx hb hX hbl hbA hS (vp_in_nI (n := 1) (N := 5) (by decide) (by decide)) dL_law_1905 ?_
  refine lv_aload_n hx hb dL_law_1906 rfl (lv_at hl 3 rfl) ?_
  refine lv_iload_n hx hb dL_law_1907 rfl (lv_at hl 0 rfl) ?_
  refine lv_iconst (v := 2) hx hb dL_law_1908 (by decide) ?_
  refine lv_iadd hx hb dL_law_1909 ?_
  refine lv_topi (fun f_2 ef_2 => ?_)
  obtain rfl : (2 : Int32) = f_2 := (ef_2.trans (by decide)).symm
  refine va_sld hx hb hX hbl hbA hS (vp_in_nI (n := 2) (N := 5) (by decide) (by decide)) dL_law_1910 ?_
  refine lv_aload_n hx hb dL_law_1911 rfl (lv_at hl 3 rfl) ?_
  refine lv_iload_n hx hb dL_law_1912 rfl (lv_at hl 0 rfl) ?_
  refine lv_iconst (v := 3) hx hb dL_law_1913 (by decide) ?_
  refine lv_iadd hx hb dL_law_1914 ?_
  refine lv_topi (fun f_3 ef_3 => ?_)
  obtain rfl : (3 : Int32) = f_3 := (ef_3.trans (by decide)).symm
  refine va_sld hx hb hX hbl hbA hS (vp_in_nI (n := 3) (N := 5) (by decide) (by decide)) dL_law_1915 ?_
  have hPc := hP.sub (ws' := [(x0, .inr (11, (fsX g)))]) [0] rfl
  have hDc := hD.sub (ws' := [(x0, .inr (11, (fsX g)))]) [0] (by decide) rfl
  have hKc := hK
  refine vp_callSi (va_Run.run (va_runV (As := [.int (xs (1 : Int32).toNatClampNeg), .int (xs (2 : Int32).toNatClampNeg), .int (xs (3 : Int32).toNatClampNeg)]) (rest := []) ⟨hx, hb, hml, hown, hts⟩ (c_X11_alter l dC dI cI cB cZ cJ cC cP cV cT cO H.size x0 g (xs (1 : Int32).toNatClampNeg) (xs (2 : Int32).toNatClampNeg) (xs (3 : Int32).toNatClampNeg)) (cwV 3 hts gq_L_law_X11_alter_225 rfl rfl rfl (by decide +kernel) ⟨Nat.le_of_ble_eq_true rfl, Nat.le_of_ble_eq_true rfl⟩) ⟨fun a U g mk q => by obtain ⟨q0, q1, qP, qK, qD⟩ := q; exact ⟨q0, q1, qP, va_K.moved (u := U) (U := U.calling g mk a) (Vm.Alike.refl U.vm) qK, qD⟩, va_recv hKc hPc (ci := 11) (q0 := 0) rfl rfl, fun U hU hW => ⟨rfl, by rw [hU], by rw [hU]; exact hPc, va_K.moved hW.alike hKc, hDc.weaken (fun _ _ _ _ => trivial)⟩⟩ rfl rfl hl.1 rfl (lv_room (Nat.le_of_ble_eq_true rfl)) dL_law_1916 ⟨Nat.le_of_ble_eq_true rfl, Nat.le_of_ble_eq_true rfl⟩)) (fun r_4 hr_4 => ?_)
  obtain rfl : r_4 = (-2) := hr_4
  refine lv_aload_n hx hb dL_law_1919 rfl (lv_at hl 1 rfl) ?_
  refine lv_aload_n hx hb dL_law_1920 rfl (lv_at hl 3 rfl) ?_
  refine lv_iload_n hx hb dL_law_1921 rfl (lv_at hl 0 rfl) ?_
  refine lv_iconst (v := 1) hx hb dL_law_1922 (by decide) ?_
  refine lv_iadd hx hb dL_law_1923 ?_
  refine lv_topi (fun f_5 ef_5 => ?_)
  obtain rfl : (1 : Int32) = f_5 := (ef_5.trans (by decide)).symm
  refine va_sld hx hb hX hbl hbA hS (vp_in_nI (n := 1) (N := 5) (by decide) (by decide)) dL_law_1924 ?_
  refine lv_aload_n hx hb dL_law_1925 rfl (lv_at hl 3 rfl) ?_
  refine lv_iload_n hx hb dL_law_1926 rfl (lv_at hl 0 rfl) ?_
  refine lv_iconst (v := 2) hx hb dL_law_1927 (by decide) ?_
  refine lv_iadd hx hb dL_law_1928 ?_
  refine lv_topi (fun f_6 ef_6 => ?_)
  obtain rfl : (2 : Int32) = f_6 := (ef_6.trans (by decide)).symm
  refine va_sld hx hb hX hbl hbA hS (vp_in_nI (n := 2) (N := 5) (by decide) (by decide)) dL_law_1929 ?_
  refine lv_aload_n hx hb dL_law_1930 rfl (lv_at hl 3 rfl) ?_
  refine lv_iload_n hx hb dL_law_1931 rfl (lv_at hl 0 rfl) ?_
  refine lv_iconst (v := 3) hx hb dL_law_1932 (by decide) ?_
  refine lv_iadd hx hb dL_law_1933 ?_
  refine lv_topi (fun f_7 ef_7 => ?_)
  obtain rfl : (3 : Int32) = f_7 := (ef_7.trans (by decide)).symm
  refine va_sld hx hb hX hbl hbA hS (vp_in_nI (n := 3) (N := 5) (by decide) (by decide)) dL_law_1934 ?_
  have hPc := hP.sub (ws' := [(m0, .inr (12, (fsM gm)))]) [8] rfl
  have hDc := hD.sub (ws' := [(m0, .inr (12, (fsM gm)))]) [8] (by decide) rfl
  have hKc := hK
  refine vp_callSi (va_Run.run (va_runV (As := [.int (xs (1 : Int32).toNatClampNeg), .int (xs (2 : Int32).toNatClampNeg), .int (xs (3 : Int32).toNatClampNeg)]) (rest := [.int (-2)]) ⟨hx, hb, hml, hown, hts⟩ (c_X12_alter l dC dI cI cB cZ cJ cC cP cV cT cO H.size m0 gm (xs (1 : Int32).toNatClampNeg) (xs (2 : Int32).toNatClampNeg) (xs (3 : Int32).toNatClampNeg)) (cwV 3 hts gq_L_law_X12_alter_228 rfl rfl rfl (by decide +kernel) ⟨Nat.le_of_ble_eq_true rfl, Nat.le_of_ble_eq_true rfl⟩) ⟨fun a U g mk q => by obtain ⟨q0, q1, qP, qK, qD⟩ := q; exact ⟨q0, q1, qP, va_K.moved (u := U) (U := U.calling g mk a) (Vm.Alike.refl U.vm) qK, qD⟩, va_recv hKc hPc (ci := 12) (q0 := 0) rfl rfl, fun U hU hW => ⟨rfl, by rw [hU], by rw [hU]; exact hPc, va_K.moved hW.alike hKc, hDc.weaken (fun _ _ _ _ => trivial)⟩⟩ rfl rfl hl.1 rfl (lv_room (Nat.le_of_ble_eq_true rfl)) dL_law_1935 ⟨Nat.le_of_ble_eq_true rfl, Nat.le_of_ble_eq_true rfl⟩)) (fun r_8 hr_8 => ?_)
  obtain rfl : r_8 = (-2) := hr_8
  refine lv_icmp_eq (tgt := 1979) hx hb dL_law_1938 (by decide) (fun _ => ?_) (fun c_9 => absurd (by decide) c_9)
  exact law_tail l C0 hA hAl rfl hS (Nat.le_of_ble_eq_true rfl) (Nat.le_of_ble_eq_true rfl) x0 m0 ls (lv_sub hl [0, 1, 2, 3] rfl)
set_option maxHeartbeats 40000000 in
set_option maxRecDepth 100000 in
theorem law_case_51 {p : Program} {e : Env} {s : State} {m : MethodId} {below : List Frame} {meth : Method} {c : Code} (l : Launch) {b L : Nat} {xs : Nat → Int32} (C0 : lw_At p s m meth c b L xs) {A : Nat → Prop} (hA : ∀ q : Nat, s.heap.size ≤ q → A q) (hAl : ∀ q : Nat, A q → s.heap.size ≤ q) (hL : L = 5) (dC : Nat → ClassId) (dI : Nat → Nat → Nat) (cI cB cZ cJ cC cP cV cT cO : ClassId) (x0 m0 : Nat) (g tf tq tt gm : Nat → Nat) (hK : va_K (dC, dI) vwCl [(cI, .int), (cB, .byte), (cZ, .boolean), (cJ, .long), (cC, .char), (cP, .object "DiskEvidence$Picture"), (cV, .object "DiskEvidence$Volume"), (cT, .object "DiskEvidence$Tree"), (cO, .object "DiskEvidence$Opening")] s) {H : Heap} {locs : List Loc} (hP : va_P (dC, dI) vwCl [(x0, .inr (11, (fsX g))), ((g 0), .inl (cB, 4000, (.inl (fun _ => 0)))), ((g 3), .inl (cP, 6, (.inr (.inr (.inr (.inr (fun _ => none))))))), ((g 14), .inr (0, (fs0 tf))), ((g 15), .inr (6, (fs6 tq))), ((g 16), .inr (8, (fs8 tt))), ((g 17), .inl (cI, 300, (.inl (fun _ => 0)))), ((g 18), .inl (cJ, 100, (.inr (.inl (fun _ => 0))))), (m0, .inr (12, (fsM gm))), ((gm 1), .inl (cI, 4000, (.inl (fun _ => 0)))), ((gm 4), .inl (cI, 6, (.inl (fun _ => 0)))), ((gm 5), .inl (cI, 49152, (.inl (fun _ => 0)))), ((gm 6), .inl (cZ, 768, (.inl (fun _ => 0)))), ((gm 168), .inl (cI, 100, (.inl (fun _ => 0)))), ((gm 169), .inl (cI, 100, (.inl (fun _ => 0)))), ((gm 170), .inl (cI, 100, (.inl (fun _ => 0)))), ((gm 171), .inl (cJ, 100, (.inr (.inl (fun _ => 0)))))] H) (hD : va_D A [(x0, .inr (11, (fsX g))), ((g 0), .inl (cB, 4000, (.inl (fun _ => 0)))), ((g 3), .inl (cP, 6, (.inr (.inr (.inr (.inr (fun _ => none))))))), ((g 14), .inr (0, (fs0 tf))), ((g 15), .inr (6, (fs6 tq))), ((g 16), .inr (8, (fs8 tt))), ((g 17), .inl (cI, 300, (.inl (fun _ => 0)))), ((g 18), .inl (cJ, 100, (.inr (.inl (fun _ => 0))))), (m0, .inr (12, (fsM gm))), ((gm 1), .inl (cI, 4000, (.inl (fun _ => 0)))), ((gm 4), .inl (cI, 6, (.inl (fun _ => 0)))), ((gm 5), .inl (cI, 49152, (.inl (fun _ => 0)))), ((gm 6), .inl (cZ, 768, (.inl (fun _ => 0)))), ((gm 168), .inl (cI, 100, (.inl (fun _ => 0)))), ((gm 169), .inl (cI, 100, (.inl (fun _ => 0)))), ((gm 170), .inl (cI, 100, (.inl (fun _ => 0)))), ((gm 171), .inl (cJ, 100, (.inr (.inl (fun _ => 0)))))]) (hS : va_S A s.heap H locs) (ls : Array Slot) (hl : lv_has ls 4 [(3, .int 0), (2, .ref m0), (1, .ref x0), (0, .ref b)]) : W p l e room_1 s m #[Value.ref b] below meth c H locs 147 815844 (lw_Z below #[Value.ref b] s) (F0 m 1943 ls []) := by
  subst hL
  obtain ⟨hx, hb, hr, hml, hown, hts, hX, hbl, hlocks, hgv⟩ := id C0
  have hown : s.vm.findClass RL = some m.cls := hown
  have hbA : ¬ A b := fun h => absurd (hAl b h) (Nat.not_le.mpr hbl)
  refine lv_aload_n hx hb dL_law_1943 rfl (lv_at hl 2 rfl) ?_
  have hPc := hP.sub (ws' := [(x0, .inr (11, (fsX g)))]) [0] rfl
  have hDc := hD.sub (ws' := [(x0, .inr (11, (fsX g)))]) [0] (by decide) rfl
  have hKc := hK
  refine vp_callSi (va_Run.run (va_runV (As := []) (rest := []) ⟨hx, hb, hml, hown, hts⟩ (c_X11_chain l dC dI cI cB cZ cJ cC cP cV cT cO H.size x0 g) (cwV 0 hts gq_L_law_X11_chain_229 rfl rfl rfl (by decide +kernel) ⟨Nat.le_of_ble_eq_true rfl, Nat.le_of_ble_eq_true rfl⟩) ⟨fun a U g mk q => by obtain ⟨q0, q1, qP, qK, qD⟩ := q; exact ⟨q0, q1, qP, va_K.moved (u := U) (U := U.calling g mk a) (Vm.Alike.refl U.vm) qK, qD⟩, va_recv hKc hPc (ci := 11) (q0 := 0) rfl rfl, fun U hU hW => ⟨rfl, by rw [hU], by rw [hU]; exact hPc, va_K.moved hW.alike hKc, hDc.weaken (fun _ _ _ _ => trivial)⟩⟩ rfl rfl hl.1 rfl (lv_room (Nat.le_of_ble_eq_true rfl)) dL_law_1944 ⟨Nat.le_of_ble_eq_true rfl, Nat.le_of_ble_eq_true rfl⟩)) (fun r_1 hr_1 => ?_)
  obtain rfl : r_1 = (-1) := hr_1
  refine lv_aload_n hx hb dL_law_1947 rfl (lv_at hl 1 rfl) ?_
  have hPc := hP.sub (ws' := [(m0, .inr (12, (fsM gm)))]) [8] rfl
  have hDc := hD.sub (ws' := [(m0, .inr (12, (fsM gm)))]) [8] (by decide) rfl
  have hKc := hK
  refine vp_callSi (va_Run.run (va_runV (As := []) (rest := [.int (-1)]) ⟨hx, hb, hml, hown, hts⟩ (c_X12_chain l dC dI cI cB cZ cJ cC cP cV cT cO H.size m0 gm) (cwV 0 hts gq_L_law_X12_chain_232 rfl rfl rfl (by decide +kernel) ⟨Nat.le_of_ble_eq_true rfl, Nat.le_of_ble_eq_true rfl⟩) ⟨fun a U g mk q => by obtain ⟨q0, q1, qP, qK, qD⟩ := q; exact ⟨q0, q1, qP, va_K.moved (u := U) (U := U.calling g mk a) (Vm.Alike.refl U.vm) qK, qD⟩, va_recv hKc hPc (ci := 12) (q0 := 0) rfl rfl, fun U hU hW => ⟨rfl, by rw [hU], by rw [hU]; exact hPc, va_K.moved hW.alike hKc, hDc.weaken (fun _ _ _ _ => trivial)⟩⟩ rfl rfl hl.1 rfl (lv_room (Nat.le_of_ble_eq_true rfl)) dL_law_1948 ⟨Nat.le_of_ble_eq_true rfl, Nat.le_of_ble_eq_true rfl⟩)) (fun r_2 hr_2 => ?_)
  obtain rfl : r_2 = (-1) := hr_2
  refine lv_icmp_eq (tgt := 1979) hx hb dL_law_1951 (by decide) (fun _ => ?_) (fun c_3 => absurd (by decide) c_3)
  exact law_tail l C0 hA hAl rfl hS (Nat.le_of_ble_eq_true rfl) (Nat.le_of_ble_eq_true rfl) x0 m0 ls (lv_sub hl [0, 1, 2, 3] rfl)
