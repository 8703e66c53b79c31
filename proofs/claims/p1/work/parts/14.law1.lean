set_option maxHeartbeats 40000000 in
set_option maxRecDepth 100000 in
theorem law_case_10 {p : Program} {e : Env} {s : State} {m : MethodId} {below : List Frame} {meth : Method} {c : Code} (l : Launch) {b L : Nat} {xs : Nat → Int32} (C0 : lw_At p s m meth c b L xs) {A : Nat → Prop} (hA : ∀ q : Nat, s.heap.size ≤ q → A q) (hAl : ∀ q : Nat, A q → s.heap.size ≤ q) (hL : L = 5) (dC : Nat → ClassId) (dI : Nat → Nat → Nat) (cI cB cZ cJ cC cP cV cT cO : ClassId) (x0 m0 : Nat) (g tf tq tt gm : Nat → Nat) (hK : va_K (dC, dI) vwCl [(cI, .int), (cB, .byte), (cZ, .boolean), (cJ, .long), (cC, .char), (cP, .object "DiskEvidence$Picture"), (cV, .object "DiskEvidence$Volume"), (cT, .object "DiskEvidence$Tree"), (cO, .object "DiskEvidence$Opening")] s) {H : Heap} {locs : List Loc} (hP : va_P (dC, dI) vwCl [(x0, .inr (11, (fsX g))), ((g 0), .inl (cB, 4000, (.inl (fun _ => 0)))), ((g 3), .inl (cP, 6, (.inr (.inr (.inr (.inr (fun _ => none))))))), ((g 14), .inr (0, (fs0 tf))), ((g 15), .inr (6, (fs6 tq))), ((g 16), .inr (8, (fs8 tt))), ((g 17), .inl (cI, 300, (.inl (fun _ => 0)))), ((g 18), .inl (cJ, 100, (.inr (.inl (fun _ => 0))))), (m0, .inr (12, (fsM gm))), ((gm 1), .inl (cI, 4000, (.inl (fun _ => 0)))), ((gm 4), .inl (cI, 6, (.inl (fun _ => 0)))), ((gm 5), .inl (cI, 49152, (.inl (fun _ => 0)))), ((gm 6), .inl (cZ, 768, (.inl (fun _ => 0)))), ((gm 168), .inl (cI, 100, (.inl (fun _ => 0)))), ((gm 169), .inl (cI, 100, (.inl (fun _ => 0)))), ((gm 170), .inl (cI, 100, (.inl (fun _ => 0)))), ((gm 171), .inl (cJ, 100, (.inr (.inl (fun _ => 0)))))] H) (hD : va_D A [(x0, .inr (11, (fsX g))), ((g 0), .inl (cB, 4000, (.inl (fun _ => 0)))), ((g 3), .inl (cP, 6, (.inr (.inr (.inr (.inr (fun _ => none))))))), ((g 14), .inr (0, (fs0 tf))), ((g 15), .inr (6, (fs6 tq))), ((g 16), .inr (8, (fs8 tt))), ((g 17), .inl (cI, 300, (.inl (fun _ => 0)))), ((g 18), .inl (cJ, 100, (.inr (.inl (fun _ => 0))))), (m0, .inr (12, (fsM gm))), ((gm 1), .inl (cI, 4000, (.inl (fun _ => 0)))), ((gm 4), .inl (cI, 6, (.inl (fun _ => 0)))), ((gm 5), .inl (cI, 49152, (.inl (fun _ => 0)))), ((gm 6), .inl (cZ, 768, (.inl (fun _ => 0)))), ((gm 168), .inl (cI, 100, (.inl (fun _ => 0)))), ((gm 169), .inl (cI, 100, (.inl (fun _ => 0)))), ((gm 170), .inl (cI, 100, (.inl (fun _ => 0)))), ((gm 171), .inl (cJ, 100, (.inr (.inl (fun _ => 0)))))]) (hS : va_S A s.heap H locs) (ls : Array Slot) (hl : lv_has ls 4 [(3, .int 0), (2, .ref m0), (1, .ref x0), (0, .ref b)]) : W p l e room_1 s m #[Value.ref b] below meth c H locs 147 815844 (lw_Z below #[Value.ref b] s) (F0 m 597 ls []) := by
  subst hL
  obtain ⟨hx, hb, hr, hml, hown, hts, hX, hbl, hlocks, hgv⟩ := id C0
  have hown : s.vm.findClass RL = some m.cls := hown
  have hbA : ¬ A b := fun h => absurd (hAl b h) (Nat.not_le.mpr hbl)
  refine lv_aload_n hx hb dL_law_597 rfl (lv_at hl 2 rfl) ?_
  refine lv_aload_n hx hb dL_law_598 rfl (lv_at hl 3 rfl) ?_
  refine lv_iload_n hx hb dL_law_599 rfl (lv_at hl 0 rfl) ?_
  refine lv_iconst (v := 1) hx hb dL_law_600 (by decide) ?_
  refine lv_iadd hx hb dL_law_601 ?_
  refine lv_topi (fun f_1 ef_1 => ?_)
  obtain rfl : (1 : Int32) = f_1 := (ef_1.trans (by decide)).symm
  refine va_sld hx hb hX hbl hbA hS (vp_in_nI (n := 1) (N := 5) (by decide) (by decide)) dL_law_602 ?_
  have hPc := hP.sub (ws' := [(x0, .inr (11, (fsX g)))]) [0] rfl
  have hDc := hD.sub (ws' := [(x0, .inr (11, (fsX g)))]) [0] (by decide) rfl
  have hKc := hK
  refine vp_callSi (va_Run.run (va_runV (As := [.int (xs (1 : Int32).toNatClampNeg)]) (rest := []) ⟨hx, hb, hml, hown, hts⟩ (c_X11_parts l dC dI cI cB cZ cJ cC cP cV cT cO H.size x0 g (xs (1 : Int32).toNatClampNeg)) (cwV 1 hts gq_L_law_X11_parts_62 rfl rfl rfl (by decide +kernel) ⟨Nat.le_of_ble_eq_true rfl, Nat.le_of_ble_eq_true rfl⟩) ⟨fun a U g mk q => by obtain ⟨q0, q1, qP, qK, qD⟩ := q; exact ⟨q0, q1, qP, va_K.moved (u := U) (U := U.calling g mk a) (Vm.Alike.refl U.vm) qK, qD⟩, va_recv hKc hPc (ci := 11) (q0 := 0) rfl rfl, fun U hU hW => ⟨rfl, by rw [hU], by rw [hU]; exact hPc, va_K.moved hW.alike hKc, hDc.weaken (fun _ _ _ _ => trivial)⟩⟩ rfl rfl hl.1 rfl (lv_room (Nat.le_of_ble_eq_true rfl)) dL_law_603 ⟨Nat.le_of_ble_eq_true rfl, Nat.le_of_ble_eq_true rfl⟩)) (fun r_2 hr_2 => ?_)
  obtain rfl : r_2 = (-2) := hr_2
  refine lv_aload_n hx hb dL_law_606 rfl (lv_at hl 1 rfl) ?_
  refine lv_aload_n hx hb dL_law_607 rfl (lv_at hl 3 rfl) ?_
  refine lv_iload_n hx hb dL_law_608 rfl (lv_at hl 0 rfl) ?_
  refine lv_iconst (v := 1) hx hb dL_law_609 (by decide) ?_
  refine lv_iadd hx hb dL_law_610 ?_
  refine lv_topi (fun f_3 ef_3 => ?_)
  obtain rfl : (1 : Int32) = f_3 := (ef_3.trans (by decide)).symm
  refine va_sld hx hb hX hbl hbA hS (vp_in_nI (n := 1) (N := 5) (by decide) (by decide)) dL_law_611 ?_
  have hPc := hP.sub (ws' := [(m0, .inr (12, (fsM gm)))]) [8] rfl
  have hDc := hD.sub (ws' := [(m0, .inr (12, (fsM gm)))]) [8] (by decide) rfl
  have hKc := hK
  refine vp_callSi (va_Run.run (va_runV (As := [.int (xs (1 : Int32).toNatClampNeg)]) (rest := [.int (-2)]) ⟨hx, hb, hml, hown, hts⟩ (c_X12_parts l dC dI cI cB cZ cJ cC cP cV cT cO H.size m0 gm (xs (1 : Int32).toNatClampNeg)) (cwV 1 hts gq_L_law_X12_parts_65 rfl rfl rfl (by decide +kernel) ⟨Nat.le_of_ble_eq_true rfl, Nat.le_of_ble_eq_true rfl⟩) ⟨fun a U g mk q => by obtain ⟨q0, q1, qP, qK, qD⟩ := q; exact ⟨q0, q1, qP, va_K.moved (u := U) (U := U.calling g mk a) (Vm.Alike.refl U.vm) qK, qD⟩, va_recv hKc hPc (ci := 12) (q0 := 0) rfl rfl, fun U hU hW => ⟨rfl, by rw [hU], by rw [hU]; exact hPc, va_K.moved hW.alike hKc, hDc.weaken (fun _ _ _ _ => trivial)⟩⟩ rfl rfl hl.1 rfl (lv_room (Nat.le_of_ble_eq_true rfl)) dL_law_612 ⟨Nat.le_of_ble_eq_true rfl, Nat.le_of_ble_eq_true rfl⟩)) (fun r_4 hr_4 => ?_)
  obtain rfl : r_4 = (-2) := hr_4
  refine lv_icmp_eq (tgt := 1979) hx hb dL_law_615 (by decide) (fun _ => ?_) (fun c_5 => absurd (by decide) c_5)
  exact law_tail l C0 hA hAl rfl hS (Nat.le_of_ble_eq_true rfl) (Nat.le_of_ble_eq_true rfl) x0 m0 ls (lv_sub hl [0, 1, 2, 3] rfl)
set_option maxHeartbeats 40000000 in
set_option maxRecDepth 100000 in
theorem law_case_11 {p : Program} {e : Env} {s : State} {m : MethodId} {below : List Frame} {meth : Method} {c : Code} (l : Launch) {b L : Nat} {xs : Nat → Int32} (C0 : lw_At p s m meth c b L xs) {A : Nat → Prop} (hA : ∀ q : Nat, s.heap.size ≤ q → A q) (hAl : ∀ q : Nat, A q → s.heap.size ≤ q) (hL : L = 5) (dC : Nat → ClassId) (dI : Nat → Nat → Nat) (cI cB cZ cJ cC cP cV cT cO : ClassId) (x0 m0 : Nat) (g tf tq tt gm : Nat → Nat) (hK : va_K (dC, dI) vwCl [(cI, .int), (cB, .byte), (cZ, .boolean), (cJ, .long), (cC, .char), (cP, .object "DiskEvidence$Picture"), (cV, .object "DiskEvidence$Volume"), (cT, .object "DiskEvidence$Tree"), (cO, .object "DiskEvidence$Opening")] s) {H : Heap} {locs : List Loc} (hP : va_P (dC, dI) vwCl [(x0, .inr (11, (fsX g))), ((g 0), .inl (cB, 4000, (.inl (fun _ => 0)))), ((g 3), .inl (cP, 6, (.inr (.inr (.inr (.inr (fun _ => none))))))), ((g 14), .inr (0, (fs0 tf))), ((g 15), .inr (6, (fs6 tq))), ((g 16), .inr (8, (fs8 tt))), ((g 17), .inl (cI, 300, (.inl (fun _ => 0)))), ((g 18), .inl (cJ, 100, (.inr (.inl (fun _ => 0))))), (m0, .inr (12, (fsM gm))), ((gm 1), .inl (cI, 4000, (.inl (fun _ => 0)))), ((gm 4), .inl (cI, 6, (.inl (fun _ => 0)))), ((gm 5), .inl (cI, 49152, (.inl (fun _ => 0)))), ((gm 6), .inl (cZ, 768, (.inl (fun _ => 0)))), ((gm 168), .inl (cI, 100, (.inl (fun _ => 0)))), ((gm 169), .inl (cI, 100, (.inl (fun _ => 0)))), ((gm 170), .inl (cI, 100, (.inl (fun _ => 0)))), ((gm 171), .inl (cJ, 100, (.inr (.inl (fun _ => 0)))))] H) (hD : va_D A [(x0, .inr (11, (fsX g))), ((g 0), .inl (cB, 4000, (.inl (fun _ => 0)))), ((g 3), .inl (cP, 6, (.inr (.inr (.inr (.inr (fun _ => none))))))), ((g 14), .inr (0, (fs0 tf))), ((g 15), .inr (6, (fs6 tq))), ((g 16), .inr (8, (fs8 tt))), ((g 17), .inl (cI, 300, (.inl (fun _ => 0)))), ((g 18), .inl (cJ, 100, (.inr (.inl (fun _ => 0))))), (m0, .inr (12, (fsM gm))), ((gm 1), .inl (cI, 4000, (.inl (fun _ => 0)))), ((gm 4), .inl (cI, 6, (.inl (fun _ => 0)))), ((gm 5), .inl (cI, 49152, (.inl (fun _ => 0)))), ((gm 6), .inl (cZ, 768, (.inl (fun _ => 0)))), ((gm 168), .inl (cI, 100, (.inl (fun _ => 0)))), ((gm 169), .inl (cI, 100, (.inl (fun _ => 0)))), ((gm 170), .inl (cI, 100, (.inl (fun _ => 0)))), ((gm 171), .inl (cJ, 100, (.inr (.inl (fun _ => 0)))))]) (hS : va_S A s.heap H locs) (ls : Array Slot) (hl : lv_has ls 4 [(3, .int 0), (2, .ref m0), (1, .ref x0), (0, .ref b)]) : W p l e room_1 s m #[Value.ref b] below meth c H locs 147 815844 (lw_Z below #[Value.ref b] s) (F0 m 620 ls []) := by
  subst hL
  obtain ⟨hx, hb, hr, hml, hown, hts, hX, hbl, hlocks, hgv⟩ := id C0
  have hown : s.vm.findClass RL = some m.cls := hown
  have hbA : ¬ A b := fun h => absurd (hAl b h) (Nat.not_le.mpr hbl)
  refine lv_aload_n hx hb dL_law_620 rfl (lv_at hl 2 rfl) ?_
  refine lv_aload_n hx hb dL_law_621 rfl (lv_at hl 3 rfl) ?_
  refine lv_iload_n hx hb dL_law_622 rfl (lv_at hl 0 rfl) ?_
  refine lv_iconst (v := 1) hx hb dL_law_623 (by decide) ?_
  refine lv_iadd hx hb dL_law_624 ?_
  refine lv_topi (fun f_1 ef_1 => ?_)
  obtain rfl : (1 : Int32) = f_1 := (ef_1.trans (by decide)).symm
  refine va_sld hx hb hX hbl hbA hS (vp_in_nI (n := 1) (N := 5) (by decide) (by decide)) dL_law_625 ?_
  refine lv_aload_n hx hb dL_law_626 rfl (lv_at hl 3 rfl) ?_
  refine lv_iload_n hx hb dL_law_627 rfl (lv_at hl 0 rfl) ?_
  refine lv_iconst (v := 2) hx hb dL_law_628 (by decide) ?_
  refine lv_iadd hx hb dL_law_629 ?_
  refine lv_topi (fun f_2 ef_2 => ?_)
  obtain rfl : (2 : Int32) = f_2 := (ef_2.trans (by decide)).symm
  refine va_sld hx hb hX hbl hbA hS (vp_in_nI (n := 2) (N := 5) (by decide) (by decide)) dL_law_630 ?_
  refine lv_aload_n hx hb dL_law_631 rfl (lv_at hl 3 rfl) ?_
  refine lv_iload_n hx hb dL_law_632 rfl (lv_at hl 0 rfl) ?_
  refine lv_iconst (v := 3) hx hb dL_law_633 (by decide) ?_
  refine lv_iadd hx hb dL_law_634 ?_
  refine lv_topi (fun f_3 ef_3 => ?_)
  obtain rfl : (3 : Int32) = f_3 := (ef_3.trans (by decide)).symm
  refine va_sld hx hb hX hbl hbA hS (vp_in_nI (n := 3) (N := 5) (by decide) (by decide)) dL_law_635 ?_
  have hPc := hP.sub (ws' := [(x0, .inr (11, (fsX g)))]) [0] rfl
  have hDc := hD.sub (ws' := [(x0, .inr (11, (fsX g)))]) [0] (by decide) rfl
  have hKc := hK
  refine vp_callSi (va_Run.run (va_runV (As := [.int (xs (1 : Int32).toNatClampNeg), .int (xs (2 : Int32).toNatClampNeg), .int (xs (3 : Int32).toNatClampNeg)]) (rest := []) ⟨hx, hb, hml, hown, hts⟩ (c_X11_part l dC dI cI cB cZ cJ cC cP cV cT cO H.size x0 g (xs (1 : Int32).toNatClampNeg) (xs (2 : Int32).toNatClampNeg) (xs (3 : Int32).toNatClampNeg)) (cwV 3 hts gq_L_law_X11_part_66 rfl rfl rfl (by decide +kernel) ⟨Nat.le_of_ble_eq_true rfl, Nat.le_of_ble_eq_true rfl⟩) ⟨fun a U g mk q => by obtain ⟨q0, q1, qP, qK, qD⟩ := q; exact ⟨q0, q1, qP, va_K.moved (u := U) (U := U.calling g mk a) (Vm.Alike.refl U.vm) qK, qD⟩, va_recv hKc hPc (ci := 11) (q0 := 0) rfl rfl, fun U hU hW => ⟨rfl, by rw [hU], by rw [hU]; exact hPc, va_K.moved hW.alike hKc, hDc.weaken (fun _ _ _ _ => trivial)⟩⟩ rfl rfl hl.1 rfl (lv_room (Nat.le_of_ble_eq_true rfl)) dL_law_636 ⟨Nat.le_of_ble_eq_true rfl, Nat.le_of_ble_eq_true rfl⟩)) (fun r_4 hr_4 => ?_)
  obtain rfl : r_4 = (-2) := hr_4
  refine lv_aload_n hx hb dL_law_639 rfl (lv_at hl 1 rfl) ?_
  refine lv_aload_n hx hb dL_law_640 rfl (lv_at hl 3 rfl) ?_
  refine lv_iload_n hx hb dL_law_641 rfl (lv_at hl 0 rfl) ?_
  refine lv_iconst (v := 1) hx hb dL_law_642 (by decide) ?_
  refine lv_iadd hx hb dL_law_643 ?_
  refine lv_topi (fun f_5 ef_5 => ?_)
  obtain rfl : (1 : Int32) = f_5 := (ef_5.trans (by decide)).symm
  refine va_sld hx hb hX hbl hbA hS (vp_in_nI (n := 1) (N := 5) (by decide) (by decide)) dL_law_644 ?_
  refine lv_aload_n hx hb dL_law_645 rfl (lv_at hl 3 rfl) ?_
  refine lv_iload_n hx hb dL_law_646 rfl (lv_at hl 0 rfl) ?_
  refine lv_iconst (v := 2) hx hb dL_law_647 (by decide) ?_
  refine lv_iadd hx hb dL_law_648 ?_
  refine lv_topi (fun f_6 ef_6 => ?_)
  obtain rfl : (2 : Int32) = f_6 := (ef_6.trans (by decide)).symm
  refine va_sld hx hb hX hbl hbA hS (vp_in_nI (n := 2) (N := 5) (by decide) (by decide)) dL_law_649 ?_
  refine lv_aload_n hx hb dL_law_650 rfl (lv_at hl 3 rfl) ?_
  refine lv_iload_n hx hb dL_law_651 rfl (lv_at hl 0 rfl) ?_
  refine lv_iconst (v := 3) hx hb dL_law_652 (by decide) ?_
  refine lv_iadd hx hb dL_law_653 ?_
  refine lv_topi (fun f_7 ef_7 => ?_)
  obtain rfl : (3 : Int32) = f_7 := (ef_7.trans (by decide)).symm
  refine va_sld hx hb hX hbl hbA hS (vp_in_nI (n := 3) (N := 5) (by decide) (by decide)) dL_law_654 ?_
  have hPc := hP.sub (ws' := [(m0, .inr (12, (fsM gm)))]) [8] rfl
  have hDc := hD.sub (ws' := [(m0, .inr (12, (fsM gm)))]) [8] (by decide) rfl
  have hKc := hK
  refine vp_callSi (va_Run.run (va_runV (As := [.int (xs (1 : Int32).toNatClampNeg), .int (xs (2 : Int32).toNatClampNeg), .int (xs (3 : Int32).toNatClampNeg)]) (rest := [.int (-2)]) ⟨hx, hb, hml, hown, hts⟩ (c_X12_part l dC dI cI cB cZ cJ cC cP cV cT cO H.size m0 gm (xs (1 : Int32).toNatClampNeg) (xs (2 : Int32).toNatClampNeg) (xs (3 : Int32).toNatClampNeg)) (cwV 3 hts gq_L_law_X12_part_69 rfl rfl rfl (by decide +kernel) ⟨Nat.le_of_ble_eq_true rfl, Nat.le_of_ble_eq_true rfl⟩) ⟨fun a U g mk q => by obtain ⟨q0, q1, qP, qK, qD⟩ := q; exact ⟨q0, q1, qP, va_K.moved (u := U) (U := U.calling g mk a) (Vm.Alike.refl U.vm) qK, qD⟩, va_recv hKc hPc (ci := 12) (q0 := 0) rfl rfl, fun U hU hW => ⟨rfl, by rw [hU], by rw [hU]; exact hPc, va_K.moved hW.alike hKc, hDc.weaken (fun _ _ _ _ => trivial)⟩⟩ rfl rfl hl.1 rfl (lv_room (Nat.le_of_ble_eq_true rfl)) dL_law_655 ⟨Nat.le_of_ble_eq_true rfl, Nat.le_of_ble_eq_true rfl⟩)) (fun r_8 hr_8 => ?_)
  obtain rfl : r_8 = (-2) := hr_8
  refine lv_icmp_eq (tgt := 1979) hx hb dL_law_658 (by decide) (fun _ => ?_) (fun c_9 => absurd (by decide) c_9)
  exact law_tail l C0 hA hAl rfl hS (Nat.le_of_ble_eq_true rfl) (Nat.le_of_ble_eq_true rfl) x0 m0 ls (lv_sub hl [0, 1, 2, 3] rfl)
set_option maxHeartbeats 40000000 in
set_option maxRecDepth 100000 in
theorem law_case_12 {p : Program} {e : Env} {s : State} {m : MethodId} {below : List Frame} {meth : Method} {c : Code} (l : Launch) {b L : Nat} {xs : Nat → Int32} (C0 : lw_At p s m meth c b L xs) {A : Nat → Prop} (hA : ∀ q : Nat, s.heap.size ≤ q → A q) (hAl : ∀ q : Nat, A q → s.heap.size ≤ q) (hL : L = 5) (dC : Nat → ClassId) (dI : Nat → Nat → Nat) (cI cB cZ cJ cC cP cV cT cO : ClassId) (x0 m0 : Nat) (g tf tq tt gm : Nat → Nat) (hK : va_K (dC, dI) vwCl [(cI, .int), (cB, .byte), (cZ, .boolean), (cJ, .long), (cC, .char), (cP, .object "DiskEvidence$Picture"), (cV, .object "DiskEvidence$Volume"), (cT, .object "DiskEvidence$Tree"), (cO, .object "DiskEvidence$Opening")] s) {H : Heap} {locs : List Loc} (hP : va_P (dC, dI) vwCl [(x0, .inr (11, (fsX g))), ((g 0), .inl (cB, 4000, (.inl (fun _ => 0)))), ((g 3), .inl (cP, 6, (.inr (.inr (.inr (.inr (fun _ => none))))))), ((g 14), .inr (0, (fs0 tf))), ((g 15), .inr (6, (fs6 tq))), ((g 16), .inr (8, (fs8 tt))), ((g 17), .inl (cI, 300, (.inl (fun _ => 0)))), ((g 18), .inl (cJ, 100, (.inr (.inl (fun _ => 0))))), (m0, .inr (12, (fsM gm))), ((gm 1), .inl (cI, 4000, (.inl (fun _ => 0)))), ((gm 4), .inl (cI, 6, (.inl (fun _ => 0)))), ((gm 5), .inl (cI, 49152, (.inl (fun _ => 0)))), ((gm 6), .inl (cZ, 768, (.inl (fun _ => 0)))), ((gm 168), .inl (cI, 100, (.inl (fun _ => 0)))), ((gm 169), .inl (cI, 100, (.inl (fun _ => 0)))), ((gm 170), .inl (cI, 100, (.inl (fun _ => 0)))), ((gm 171), .inl (cJ, 100, (.inr (.inl (fun _ => 0)))))] H) (hD : va_D A [(x0, .inr (11, (fsX g))), ((g 0), .inl (cB, 4000, (.inl (fun _ => 0)))), ((g 3), .inl (cP, 6, (.inr (.inr (.inr (.inr (fun _ => none))))))), ((g 14), .inr (0, (fs0 tf))), ((g 15), .inr (6, (fs6 tq))), ((g 16), .inr (8, (fs8 tt))), ((g 17), .inl (cI, 300, (.inl (fun _ => 0)))), ((g 18), .inl (cJ, 100, (.inr (.inl (fun _ => 0))))), (m0, .inr (12, (fsM gm))), ((gm 1), .inl (cI, 4000, (.inl (fun _ => 0)))), ((gm 4), .inl (cI, 6, (.inl (fun _ => 0)))), ((gm 5), .inl (cI, 49152, (.inl (fun _ => 0)))), ((gm 6), .inl (cZ, 768, (.inl (fun _ => 0)))), ((gm 168), .inl (cI, 100, (.inl (fun _ => 0)))), ((gm 169), .inl (cI, 100, (.inl (fun _ => 0)))), ((gm 170), .inl (cI, 100, (.inl (fun _ => 0)))), ((gm 171), .inl (cJ, 100, (.inr (.inl (fun _ => 0)))))]) (hS : va_S A s.heap H locs) (ls : Array Slot) (hl : lv_has ls 4 [(3, .int 0), (2, .ref m0), (1, .ref x0), (0, .ref b)]) : W p l e room_1 s m #[Value.ref b] below meth c H locs 147 815844 (lw_Z below #[Value.ref b] s) (F0 m 663 ls []) := by
  subst hL
  obtain ⟨hx, hb, hr, hml, hown, hts, hX, hbl, hlocks, hgv⟩ := id C0
  have hown : s.vm.findClass RL = some m.cls := hown
  have hbA : ¬ A b := fun h => absurd (hAl b h) (Nat.not_le.mpr hbl)
  refine lv_aload_n hx hb dL_law_663 rfl (lv_at hl 2 rfl) ?_
  refine lv_aload_n hx hb dL_law_664 rfl (lv_at hl 3 rfl) ?_
  refine lv_iload_n hx hb dL_law_665 rfl (lv_at hl 0 rfl) ?_
  refine lv_iconst (v := 1) hx hb dL_law_666 (by decide) ?_
  refine lv_iadd hx hb dL_law_667 ?_
  refine lv_topi (fun f_1 ef_1 => ?_)
  obtain rfl : (1 : Int32) = f_1 := (ef_1.trans (by decide)).symm
  refine va_sld hx hb hX hbl hbA hS (vp_in_nI (n := 1) (N := 5) (by decide) (by decide)) dL_law_668 ?_
  refine lv_aload_n hx hb dL_law_669 rfl (lv_at hl 3 rfl) ?_
  refine lv_iload_n hx hb dL_law_670 rfl (lv_at hl 0 rfl) ?_
  refine lv_iconst (v := 2) hx hb dL_law_671 (by decide) ?_
  refine lv_iadd hx hb dL_law_672 ?_
  refine lv_topi (fun f_2 ef_2 => ?_)
  obtain rfl : (2 : Int32) = f_2 := (ef_2.trans (by decide)).symm
  refine va_sld hx hb hX hbl hbA hS (vp_in_nI (n := 2) (N := 5) (by decide) (by decide)) dL_law_673 ?_
  refine lv_aload_n hx hb dL_law_674 rfl (lv_at hl 3 rfl) ?_
  refine lv_iload_n hx hb dL_law_675 rfl (lv_at hl 0 rfl) ?_
  refine lv_iconst (v := 3) hx hb dL_law_676 (by decide) ?_
  refine lv_iadd hx hb dL_law_677 ?_
  refine lv_topi (fun f_3 ef_3 => ?_)
  obtain rfl : (3 : Int32) = f_3 := (ef_3.trans (by decide)).symm
  refine va_sld hx hb hX hbl hbA hS (vp_in_nI (n := 3) (N := 5) (by decide) (by decide)) dL_law_678 ?_
  have hPc := hP.sub (ws' := [(x0, .inr (11, (fsX g)))]) [0] rfl
  have hDc := hD.sub (ws' := [(x0, .inr (11, (fsX g)))]) [0] (by decide) rfl
  have hKc := hK
  refine vp_callSi (va_Run.run (va_runV (As := [.int (xs (1 : Int32).toNatClampNeg), .int (xs (2 : Int32).toNatClampNeg), .int (xs (3 : Int32).toNatClampNeg)]) (rest := []) ⟨hx, hb, hml, hown, hts⟩ (c_X11_volume l dC dI cI cB cZ cJ cC cP cV cT cO H.size x0 g (xs (1 : Int32).toNatClampNeg) (xs (2 : Int32).toNatClampNeg) (xs (3 : Int32).toNatClampNeg)) (cwV 3 hts gq_L_law_X11_volume_70 rfl rfl rfl (by decide +kernel) ⟨Nat.le_of_ble_eq_true rfl, Nat.le_of_ble_eq_true rfl⟩) ⟨fun a U g mk q => by obtain ⟨q0, q1, qP, qK, qD⟩ := q; exact ⟨q0, q1, qP, va_K.moved (u := U) (U := U.calling g mk a) (Vm.Alike.refl U.vm) qK, qD⟩, va_recv hKc hPc (ci := 11) (q0 := 0) rfl rfl, fun U hU hW => ⟨rfl, by rw [hU], by rw [hU]; exact hPc, va_K.moved hW.alike hKc, hDc.weaken (fun _ _ _ _ => trivial)⟩⟩ rfl rfl hl.1 rfl (lv_room (Nat.le_of_ble_eq_true rfl)) dL_law_679 ⟨Nat.le_of_ble_eq_true rfl, Nat.le_of_ble_eq_true rfl⟩)) (fun r_4 hr_4 => ?_)
  obtain rfl : r_4 = (-2) := hr_4
  refine lv_aload_n hx hb dL_law_682 rfl (lv_at hl 1 rfl) ?_
  refine lv_aload_n hx hb dL_law_683 rfl (lv_at hl 3 rfl) ?_
  refine lv_iload_n hx hb dL_law_684 rfl (lv_at hl 0 rfl) ?_
  refine lv_iconst (v := 1) hx hb dL_law_685 (by decide) ?_
  refine lv_iadd hx hb dL_law_686 ?_
  refine lv_topi (fun f_5 ef_5 => ?_)
  obtain rfl : (1 : Int32) = f_5 := (ef_5.trans (by decide)).symm
  refine va_sld hx hb hX hbl hbA hS (vp_in_nI (n := 1) (N := 5) (by decide) (by decide)) dL_law_687 ?_
  refine lv_aload_n hx hb dL_law_688 rfl (lv_at hl 3 rfl) ?_
  refine lv_iload_n hx hb dL_law_689 rfl (lv_at hl 0 rfl) ?_
  refine lv_iconst (v := 2) hx hb dL_law_690 (by decide) ?_
  refine lv_iadd hx hb dL_law_691 ?_
  refine lv_topi (fun f_6 ef_6 => ?_)
  obtain rfl : (2 : Int32) = f_6 := (ef_6.trans (by decide)).symm
  refine va_sld hx hb hX hbl hbA hS (vp_in_nI (n := 2) (N := 5) (by decide) (by decide)) dL_law_692 ?_
  refine lv_aload_n hx hb dL_law_693 rfl (lv_at hl 3 rfl) ?_
  refine lv_iload_n hx hb dL_law_694 rfl (lv_at hl 0 rfl) ?_
  refine lv_iconst (v := 3) hx hb dL_law_695 (by decide) ?_
  refine lv_iadd hx hb dL_law_696 ?_
  refine lv_topi (fun f_7 ef_7 => ?_)
  obtain rfl : (3 : Int32) = f_7 := (ef_7.trans (by decide)).symm
  refine va_sld hx hb hX hbl hbA hS (vp_in_nI (n := 3) (N := 5) (by decide) (by decide)) dL_law_697 ?_
  have hPc := hP.sub (ws' := [(m0, .inr (12, (fsM gm)))]) [8] rfl
  have hDc := hD.sub (ws' := [(m0, .inr (12, (fsM gm)))]) [8] (by decide) rfl
  have hKc := hK
  refine vp_callSi (va_Run.run (va_runV (As := [.int (xs (1 : Int32).toNatClampNeg), .int (xs (2 : Int32).toNatClampNeg), .int (xs (3 : Int32).toNatClampNeg)]) (rest := [.int (-2)]) ⟨hx, hb, hml, hown, hts⟩ (c_X12_volume l dC dI cI cB cZ cJ cC cP cV cT cO H.size m0 gm (xs (1 : Int32).toNatClampNeg) (xs (2 : Int32).toNatClampNeg) (xs (3 : Int32).toNatClampNeg)) (cwV 3 hts gq_L_law_X12_volume_73 rfl rfl rfl (by decide +kernel) ⟨Nat.le_of_ble_eq_true rfl, Nat.le_of_ble_eq_true rfl⟩) ⟨fun a U g mk q => by obtain ⟨q0, q1, qP, qK, qD⟩ := q; exact ⟨q0, q1, qP, va_K.moved (u := U) (U := U.calling g mk a) (Vm.Alike.refl U.vm) qK, qD⟩, va_recv hKc hPc (ci := 12) (q0 := 0) rfl rfl, fun U hU hW => ⟨rfl, by rw [hU], by rw [hU]; exact hPc, va_K.moved hW.alike hKc, hDc.weaken (fun _ _ _ _ => trivial)⟩⟩ rfl rfl hl.1 rfl (lv_room (Nat.le_of_ble_eq_true rfl)) dL_law_698 ⟨Nat.le_of_ble_eq_true rfl, Nat.le_of_ble_eq_true rfl⟩)) (fun r_8 hr_8 => ?_)
  obtain rfl : r_8 = (-2) := hr_8
  refine lv_icmp_eq (tgt := 1979) hx hb dL_law_701 (by decide) (fun _ => ?_) (fun c_9 => absurd (by decide) c_9)
  exact law_tail l C0 hA hAl rfl hS (Nat.le_of_ble_eq_true rfl) (Nat.le_of_ble_eq_true rfl) x0 m0 ls (lv_sub hl [0, 1, 2, 3] rfl)
set_option maxHeartbeats 40000000 in
set_option maxRecDepth 100000 in
theorem law_case_13 {p : Program} {e : Env} {s : State} {m : MethodId} {below : List Frame} {meth : Method} {c : Code} (l : Launch) {b L : Nat} {xs : Nat → Int32} (C0 : lw_At p s m meth c b L xs) {A : Nat → Prop} (hA : ∀ q : Nat, s.heap.size ≤ q → A q) (hAl : ∀ q : Nat, A q → s.heap.size ≤ q) (hL : L = 5) (dC : Nat → ClassId) (dI : Nat → Nat → Nat) (cI cB cZ cJ cC cP cV cT cO : ClassId) (x0 m0 : Nat) (g tf tq tt gm : Nat → Nat) (hK : va_K (dC, dI) vwCl [(cI, .int), (cB, .byte), (cZ, .boolean), (cJ, .long), (cC, .char), (cP, .object "DiskEvidence$Picture"), (cV, .object "DiskEvidence$Volume"), (cT, .object "DiskEvidence$Tree"), (cO, .object "DiskEvidence$Opening")] s) {H : Heap} {locs : List Loc} (hP : va_P (dC, dI) vwCl [(x0, .inr (11, (fsX g))), ((g 0), .inl (cB, 4000, (.inl (fun _ => 0)))), ((g 3), .inl (cP, 6, (.inr (.inr (.inr (.inr (fun _ => none))))))), ((g 14), .inr (0, (fs0 tf))), ((g 15), .inr (6, (fs6 tq))), ((g 16), .inr (8, (fs8 tt))), ((g 17), .inl (cI, 300, (.inl (fun _ => 0)))), ((g 18), .inl (cJ, 100, (.inr (.inl (fun _ => 0))))), (m0, .inr (12, (fsM gm))), ((gm 1), .inl (cI, 4000, (.inl (fun _ => 0)))), ((gm 4), .inl (cI, 6, (.inl (fun _ => 0)))), ((gm 5), .inl (cI, 49152, (.inl (fun _ => 0)))), ((gm 6), .inl (cZ, 768, (.inl (fun _ => 0)))), ((gm 168), .inl (cI, 100, (.inl (fun _ => 0)))), ((gm 169), .inl (cI, 100, (.inl (fun _ => 0)))), ((gm 170), .inl (cI, 100, (.inl (fun _ => 0)))), ((gm 171), .inl (cJ, 100, (.inr (.inl (fun _ => 0)))))] H) (hD : va_D A [(x0, .inr (11, (fsX g))), ((g 0), .inl (cB, 4000, (.inl (fun _ => 0)))), ((g 3), .inl (cP, 6, (.inr (.inr (.inr (.inr (fun _ => none))))))), ((g 14), .inr (0, (fs0 tf))), ((g 15), .inr (6, (fs6 tq))), ((g 16), .inr (8, (fs8 tt))), ((g 17), .inl (cI, 300, (.inl (fun _ => 0)))), ((g 18), .inl (cJ, 100, (.inr (.inl (fun _ => 0))))), (m0, .inr (12, (fsM gm))), ((gm 1), .inl (cI, 4000, (.inl (fun _ => 0)))), ((gm 4), .inl (cI, 6, (.inl (fun _ => 0)))), ((gm 5), .inl (cI, 49152, (.inl (fun _ => 0)))), ((gm 6), .inl (cZ, 768, (.inl (fun _ => 0)))), ((gm 168), .inl (cI, 100, (.inl (fun _ => 0)))), ((gm 169), .inl (cI, 100, (.inl (fun _ => 0)))), ((gm 170), .inl (cI, 100, (.inl (fun _ => 0)))), ((gm 171), .inl (cJ, 100, (.inr (.inl (fun _ => 0)))))]) (hS : va_S A s.heap H locs) (ls : Array Slot) (hl : lv_has ls 4 [(3, .int 0), (2, .ref m0), (1, .ref x0), (0, .ref b)]) : W p l e room_1 s m #[Value.ref b] below meth c H locs 147 815844 (lw_Z below #[Value.ref b] s) (F0 m 706 ls []) := by
  subst hL
  obtain ⟨hx, hb, hr, hml, hown, hts, hX, hbl, hlocks, hgv⟩ := id C0
  have hown : s.vm.findClass RL = some m.cls := hown
  have hbA : ¬ A b := fun h => absurd (hAl b h) (Nat.not_le.mpr hbl)
  refine lv_aload_n hx hb dL_law_706 rfl (lv_at hl 2 rfl) ?_
  refine lv_aload_n hx hb dL_law_707 rfl (lv_at hl 3 rfl) ?_
  refine lv_iload_n hx hb dL_law_708 rfl (lv_at hl 0 rfl) ?_
  refine lv_iconst (v := 1) hx hb dL_law_709 (by decide) ?_
  refine lv_iadd hx hb dL_law_710 ?_
  refine lv_topi (fun f_1 ef_1 => ?_)
  obtain rfl : (1 : Int32) = f_1 := (ef_1.trans (by decide)).symm
  refine va_sld hx hb hX hbl hbA hS (vp_in_nI (n := 1) (N := 5) (by decide) (by decide)) dL_law_711 ?_
  refine lv_aload_n hx hb dL_law_712 rfl (lv_at hl 3 rfl) ?_
  refine lv_iload_n hx hb dL_law_713 rfl (lv_at hl 0 rfl) ?_
  refine lv_iconst (v := 2) hx hb dL_law_714 (by decide) ?_
  refine lv_iadd hx hb dL_law_715 ?_
  refine lv_topi (fun f_2 ef_2 => ?_)
  obtain rfl : (2 : Int32) = f_2 := (ef_2.trans (by decide)).symm
  refine va_sld hx hb hX hbl hbA hS (vp_in_nI (n := 2) (N := 5) (by decide) (by decide)) dL_law_716 ?_
  refine lv_aload_n hx hb dL_law_717 rfl (lv_at hl 3 rfl) ?_
  refine lv_iload_n hx hb dL_law_718 rfl (lv_at hl 0 rfl) ?_
  refine lv_iconst (v := 3) hx hb dL_law_719 (by decide) ?_
  refine lv_iadd hx hb dL_law_720 ?_
  refine lv_topi (fun f_3 ef_3 => ?_)
  obtain rfl : (3 : Int32) = f_3 := (ef_3.trans (by decide)).symm
  refine va_sld hx hb hX hbl hbA hS (vp_in_nI (n := 3) (N := 5) (by decide) (by decide)) dL_law_721 ?_
  refine lv_aload_n hx hb dL_law_722 rfl (lv_at hl 3 rfl) ?_
  refine lv_iload_n hx hb dL_law_723 rfl (lv_at hl 0 rfl) ?_
  refine lv_iconst (v := 4) hx hb dL_law_724 (by decide) ?_
  refine lv_iadd hx hb dL_law_725 ?_
  refine lv_topi (fun f_4 ef_4 => ?_)
  obtain rfl : (4 : Int32) = f_4 := (ef_4.trans (by decide)).symm
  refine va_sld hx hb hX hbl hbA hS (vp_in_nI (n := 4) (N := 5) (by decide) (by decide)) dL_law_726 ?_
  have hPc := hP.sub (ws' := [(x0, .inr (11, (fsX g)))]) [0] rfl
  have hDc := hD.sub (ws' := [(x0, .inr (11, (fsX g)))]) [0] (by decide) rfl
  have hKc := hK
  refine vp_callSi (va_Run.run (va_runV (As := [.int (xs (1 : Int32).toNatClampNeg), .int (xs (2 : Int32).toNatClampNeg), .int (xs (3 : Int32).toNatClampNeg), .int (xs (4 : Int32).toNatClampNeg)]) (rest := []) ⟨hx, hb, hml, hown, hts⟩ (c_X11_join l dC dI cI cB cZ cJ cC cP cV cT cO H.size x0 g (xs (1 : Int32).toNatClampNeg) (xs (2 : Int32).toNatClampNeg) (xs (3 : Int32).toNatClampNeg) (xs (4 : Int32).toNatClampNeg)) (cwV 4 hts gq_L_law_X11_join_74 rfl rfl rfl (by decide +kernel) ⟨Nat.le_of_ble_eq_true rfl, Nat.le_of_ble_eq_true rfl⟩) ⟨fun a U g mk q => by obtain ⟨q0, q1, qP, qK, qD⟩ := q; exact ⟨q0, q1, qP, va_K.moved (u := U) (U := U.calling g mk a) (Vm.Alike.refl U.vm) qK, qD⟩, va_recv hKc hPc (ci := 11) (q0 := 0) rfl rfl, fun U hU hW => ⟨rfl, by rw [hU], by rw [hU]; exact hPc, va_K.moved hW.alike hKc, hDc.weaken (fun _ _ _ _ => trivial)⟩⟩ rfl rfl hl.1 rfl (lv_room (Nat.le_of_ble_eq_true rfl)) dL_law_727 ⟨Nat.le_of_ble_eq_true rfl, Nat.le_of_ble_eq_true rfl⟩)) (fun r_5 hr_5 => ?_)
  obtain rfl : r_5 = (-2) := hr_5
  refine lv_aload_n hx hb dL_law_730 rfl (lv_at hl 1 rfl) ?_
  refine lv_aload_n hx hb dL_law_731 rfl (lv_at hl 3 rfl) ?_
  refine lv_iload_n hx hb dL_law_732 rfl (lv_at hl 0 rfl) ?_
  refine lv_iconst (v := 1) hx hb dL_law_733 (by decide) ?_
  refine lv_iadd hx hb dL_law_734 ?_
  refine lv_topi (fun f_6 ef_6 => ?_)
  obtain rfl : (1 : Int32) = f_6 := (ef_6.trans (by decide)).symm
  refine va_sld hx hb hX hbl hbA hS (vp_in_nI (n := 1) (N := 5) (by decide) (by decide)) dL_law_735 ?_
  refine lv_aload_n hx hb dL_law_736 rfl (lv_at hl 3 rfl) ?_
  refine lv_iload_n hx hb dL_law_737 rfl (lv_at hl 0 rfl) ?_
  refine lv_iconst (v := 2) hx hb dL_law_738 (by decide) ?_
  refine lv_iadd hx hb dL_law_739 ?_
  refine lv_topi (fun f_7 ef_7 => ?_)
  obtain rfl : (2 : Int32) = f_7 := (ef_7.trans (by decide)).symm
  refine va_sld hx hb hX hbl hbA hS (vp_in_nI (n := 2) (N := 5) (by decide) (by decide)) dL_law_740 ?_
  refine lv_aload_n hx hb dL_law_741 rfl (lv_at hl 3 rfl) ?_
  refine lv_iload_n hx hb dL_law_742 rfl (lv_at hl 0 rfl) ?_
  refine lv_iconst (v := 3) hx hb dL_law_743 (by decide) ?_
  refine lv_iadd hx hb dL_law_744 ?_
  refine lv_topi (fun f_8 ef_8 => ?_)
  obtain rfl : (3 : Int32) = f_8 := (ef_8.trans (by decide)).symm
  refine va_sld hx hb hX hbl hbA hS (vp_in_nI (n := 3) (N := 5) (by decide) (by decide)) dL_law_745 ?_
  refine lv_aload_n hx hb dL_law_746 rfl (lv_at hl 3 rfl) ?_
  refine lv_iload_n hx hb dL_law_747 rfl (lv_at hl 0 rfl) ?_
  refine lv_iconst (v := 4) hx hb dL_law_748 (by decide) ?_
  refine lv_iadd hx hb dL_law_749 ?_
  refine lv_topi (fun f_9 ef_9 => ?_)
  obtain rfl : (4 : Int32) = f_9 := (ef_9.trans (by decide)).symm
  refine va_sld hx hb hX hbl hbA hS (vp_in_nI (n := 4) (N := 5) (by decide) (by decide)) dL_law_750 ?_
  have hPc := hP.sub (ws' := [(m0, .inr (12, (fsM gm)))]) [8] rfl
  have hDc := hD.sub (ws' := [(m0, .inr (12, (fsM gm)))]) [8] (by decide) rfl
  have hKc := hK
  refine vp_callSi (va_Run.run (va_runV (As := [.int (xs (1 : Int32).toNatClampNeg), .int (xs (2 : Int32).toNatClampNeg), .int (xs (3 : Int32).toNatClampNeg), .int (xs (4 : Int32).toNatClampNeg)]) (rest := [.int (-2)]) ⟨hx, hb, hml, hown, hts⟩ (c_X12_join l dC dI cI cB cZ cJ cC cP cV cT cO H.size m0 gm (xs (1 : Int32).toNatClampNeg) (xs (2 : Int32).toNatClampNeg) (xs (3 : Int32).toNatClampNeg) (xs (4 : Int32).toNatClampNeg)) (cwV 4 hts gq_L_law_X12_join_78 rfl rfl rfl (by decide +kernel) ⟨Nat.le_of_ble_eq_true rfl, Nat.le_of_ble_eq_true rfl⟩) ⟨fun a U g mk q => by obtain ⟨q0, q1, qP, qK, qD⟩ := q; exact ⟨q0, q1, qP, va_K.moved (u := U) (U := U.calling g mk a) (Vm.Alike.refl U.vm) qK, qD⟩, va_recv hKc hPc (ci := 12) (q0 := 0) rfl rfl, fun U hU hW => ⟨rfl, by rw [hU], by rw [hU]; exact hPc, va_K.moved hW.alike hKc, hDc.weaken (fun _ _ _ _ => trivial)⟩⟩ rfl rfl hl.1 rfl (lv_room (Nat.le_of_ble_eq_true rfl)) dL_law_751 ⟨Nat.le_of_ble_eq_true rfl, Nat.le_of_ble_eq_true rfl⟩)) (fun r_10 hr_10 => ?_)
  obtain rfl : r_10 = (-2) := hr_10
  refine lv_icmp_eq (tgt := 1979) hx hb dL_law_754 (by decide) (fun _ => ?_) (fun c_11 => absurd (by decide) c_11)
  exact law_tail l C0 hA hAl rfl hS (Nat.le_of_ble_eq_true rfl) (Nat.le_of_ble_eq_true rfl) x0 m0 ls (lv_sub hl [0, 1, 2, 3] rfl)
set_option maxHeartbeats 40000000 in
set_option maxRecDepth 100000 in
theorem law_case_14 {p : Program} {e : Env} {s : State} {m : MethodId} {below : List Frame} {meth : Method} {c : Code} (l : Launch) {b L : Nat} {xs : Nat → Int32} (C0 : lw_At p s m meth c b L xs) {A : Nat → Prop} (hA : ∀ q : Nat, s.heap.size ≤ q → A q) (hAl : ∀ q : Nat, A q → s.heap.size ≤ q) (hL : L = 5) (dC : Nat → ClassId) (dI : Nat → Nat → Nat) (cI cB cZ cJ cC cP cV cT cO : ClassId) (x0 m0 : Nat) (g tf tq tt gm : Nat → Nat) (hK : va_K (dC, dI) vwCl [(cI, .int), (cB, .byte), (cZ, .boolean), (cJ, .long), (cC, .char), (cP, .object "DiskEvidence$Picture"), (cV, .object "DiskEvidence$Volume"), (cT, .object "DiskEvidence$Tree"), (cO, .object "DiskEvidence$Opening")] s) {H : Heap} {locs : List Loc} (hP : va_P (dC, dI) vwCl [(x0, .inr (11, (fsX g))), ((g 0), .inl (cB, 4000, (.inl (fun _ => 0)))), ((g 3), .inl (cP, 6, (.inr (.inr (.inr (.inr (fun _ => none))))))), ((g 14), .inr (0, (fs0 tf))), ((g 15), .inr (6, (fs6 tq))), ((g 16), .inr (8, (fs8 tt))), ((g 17), .inl (cI, 300, (.inl (fun _ => 0)))), ((g 18), .inl (cJ, 100, (.inr (.inl (fun _ => 0))))), (m0, .inr (12, (fsM gm))), ((gm 1), .inl (cI, 4000, (.inl (fun _ => 0)))), ((gm 4), .inl (cI, 6, (.inl (fun _ => 0)))), ((gm 5), .inl (cI, 49152, (.inl (fun _ => 0)))), ((gm 6), .inl (cZ, 768, (.inl (fun _ => 0)))), ((gm 168), .inl (cI, 100, (.inl (fun _ => 0)))), ((gm 169), .inl (cI, 100, (.inl (fun _ => 0)))), ((gm 170), .inl (cI, 100, (.inl (fun _ => 0)))), ((gm 171), .inl (cJ, 100, (.inr (.inl (fun _ => 0)))))] H) (hD : va_D A [(x0, .inr (11, (fsX g))), ((g 0), .inl (cB, 4000, (.inl (fun _ => 0)))), ((g 3), .inl (cP, 6, (.inr (.inr (.inr (.inr (fun _ => none))))))), ((g 14), .inr (0, (fs0 tf))), ((g 15), .inr (6, (fs6 tq))), ((g 16), .inr (8, (fs8 tt))), ((g 17), .inl (cI, 300, (.inl (fun _ => 0)))), ((g 18), .inl (cJ, 100, (.inr (.inl (fun _ => 0))))), (m0, .inr (12, (fsM gm))), ((gm 1), .inl (cI, 4000, (.inl (fun _ => 0)))), ((gm 4), .inl (cI, 6, (.inl (fun _ => 0)))), ((gm 5), .inl (cI, 49152, (.inl (fun _ => 0)))), ((gm 6), .inl (cZ, 768, (.inl (fun _ => 0)))), ((gm 168), .inl (cI, 100, (.inl (fun _ => 0)))), ((gm 169), .inl (cI, 100, (.inl (fun _ => 0)))), ((gm 170), .inl (cI, 100, (.inl (fun _ => 0)))), ((gm 171), .inl (cJ, 100, (.inr (.inl (fun _ => 0)))))]) (hS : va_S A s.heap H locs) (ls : Array Slot) (hl : lv_has ls 4 [(3, .int 0), (2, .ref m0), (1, .ref x0), (0, .ref b)]) : W p l e room_1 s m #[Value.ref b] below meth c H locs 147 815844 (lw_Z below #[Value.ref b] s) (F0 m 759 ls []) := by
  subst hL
  obtain ⟨hx, hb, hr, hml, hown, hts, hX, hbl, hlocks, hgv⟩ := id C0
  have hown : s.vm.findClass RL = some m.cls := hown
  have hbA : ¬ A b := fun h => absurd (hAl b h) (Nat.not_le.mpr hbl)
  refine lv_aload_n hx hb dL_law_759 rfl (lv_at hl 2 rfl) ?_
  refine lv_aload_n hx hb dL_law_760 rfl (lv_at hl 3 rfl) ?_
  refine lv_iload_n hx hb dL_law_761 rfl (lv_at hl 0 rfl) ?_
  refine lv_iconst (v := 1) hx hb dL_law_762 (by decide) ?_
  refine lv_iadd hx hb dL_law_763 ?_
  refine lv_topi (fun f_1 ef_1 => ?_)
  obtain rfl : (1 : Int32) = f_1 := (ef_1.trans (by decide)).symm
  refine va_sld hx hb hX hbl hbA hS (vp_in_nI (n := 1) (N := 5) (by decide) (by decide)) dL_law_764 ?_
  have hPc := hP.sub (ws' := [(x0, .inr (11, (fsX g)))]) [0] rfl
  have hDc := hD.sub (ws' := [(x0, .inr (11, (fsX g)))]) [0] (by decide) rfl
  have hKc := hK
  refine vp_callSi (va_Run.run (va_runV (As := [.int (xs (1 : Int32).toNatClampNeg)]) (rest := []) ⟨hx, hb, hml, hown, hts⟩ (c_X11_blocks l dC dI cI cB cZ cJ cC cP cV cT cO H.size x0 g (xs (1 : Int32).toNatClampNeg)) (cwV 1 hts gq_L_law_X11_blocks_79 rfl rfl rfl (by decide +kernel) ⟨Nat.le_of_ble_eq_true rfl, Nat.le_of_ble_eq_true rfl⟩) ⟨fun a U g mk q => by obtain ⟨q0, q1, qP, qK, qD⟩ := q; exact ⟨q0, q1, qP, va_K.moved (u := U) (U := U.calling g mk a) (Vm.Alike.refl U.vm) qK, qD⟩, va_recv hKc hPc (ci := 11) (q0 := 0) rfl rfl, fun U hU hW => ⟨rfl, by rw [hU], by rw [hU]; exact hPc, va_K.moved hW.alike hKc, hDc.weaken (fun _ _ _ _ => trivial)⟩⟩ rfl rfl hl.1 rfl (lv_room (Nat.le_of_ble_eq_true rfl)) dL_law_765 ⟨Nat.le_of_ble_eq_true rfl, Nat.le_of_ble_eq_true rfl⟩)) (fun r_2 hr_2 => ?_)
  obtain rfl : r_2 = (-2) := hr_2
  refine lv_aload_n hx hb dL_law_768 rfl (lv_at hl 1 rfl) ?_
  refine lv_aload_n hx hb dL_law_769 rfl (lv_at hl 3 rfl) ?_
  refine lv_iload_n hx hb dL_law_770 rfl (lv_at hl 0 rfl) ?_
  refine lv_iconst (v := 1) hx hb dL_law_771 (by decide) ?_
  refine lv_iadd hx hb dL_law_772 ?_
  refine lv_topi (fun f_3 ef_3 => ?_)
  obtain rfl : (1 : Int32) = f_3 := (ef_3.trans (by decide)).symm
  refine va_sld hx hb hX hbl hbA hS (vp_in_nI (n := 1) (N := 5) (by decide) (by decide)) dL_law_773 ?_
  have hPc := hP.sub (ws' := [(m0, .inr (12, (fsM gm)))]) [8] rfl
  have hDc := hD.sub (ws' := [(m0, .inr (12, (fsM gm)))]) [8] (by decide) rfl
  have hKc := hK
  refine vp_callSi (va_Run.run (va_runV (As := [.int (xs (1 : Int32).toNatClampNeg)]) (rest := [.int (-2)]) ⟨hx, hb, hml, hown, hts⟩ (c_X12_blocks l dC dI cI cB cZ cJ cC cP cV cT cO H.size m0 gm (xs (1 : Int32).toNatClampNeg)) (cwV 1 hts gq_L_law_X12_blocks_82 rfl rfl rfl (by decide +kernel) ⟨Nat.le_of_ble_eq_true rfl, Nat.le_of_ble_eq_true rfl⟩) ⟨fun a U g mk q => by obtain ⟨q0, q1, qP, qK, qD⟩ := q; exact ⟨q0, q1, qP, va_K.moved (u := U) (U := U.calling g mk a) (Vm.Alike.refl U.vm) qK, qD⟩, va_recv hKc hPc (ci := 12) (q0 := 0) rfl rfl, fun U hU hW => ⟨rfl, by rw [hU], by rw [hU]; exact hPc, va_K.moved hW.alike hKc, hDc.weaken (fun _ _ _ _ => trivial)⟩⟩ rfl rfl hl.1 rfl (lv_room (Nat.le_of_ble_eq_true rfl)) dL_law_774 ⟨Nat.le_of_ble_eq_true rfl, Nat.le_of_ble_eq_true rfl⟩)) (fun r_4 hr_4 => ?_)
  obtain rfl : r_4 = (-2) := hr_4
  refine lv_icmp_eq (tgt := 1979) hx hb dL_law_777 (by decide) (fun _ => ?_) (fun c_5 => absurd (by decide) c_5)
  exact law_tail l C0 hA hAl rfl hS (Nat.le_of_ble_eq_true rfl) (Nat.le_of_ble_eq_true rfl) x0 m0 ls (lv_sub hl [0, 1, 2, 3] rfl)
set_option maxHeartbeats 40000000 in
set_option maxRecDepth 100000 in
theorem law_case_15 {p : Program} {e : Env} {s : State} {m : MethodId} {below : List Frame} {meth : Method} {c : Code} (l : Launch) {b L : Nat} {xs : Nat → Int32} (C0 : lw_At p s m meth c b L xs) {A : Nat → Prop} (hA : ∀ q : Nat, s.heap.size ≤ q → A q) (hAl : ∀ q : Nat, A q → s.heap.size ≤ q) (hL : L = 5) (dC : Nat → ClassId) (dI : Nat → Nat → Nat) (cI cB cZ cJ cC cP cV cT cO : ClassId) (x0 m0 : Nat) (g tf tq tt gm : Nat → Nat) (hK : va_K (dC, dI) vwCl [(cI, .int), (cB, .byte), (cZ, .boolean), (cJ, .long), (cC, .char), (cP, .object "DiskEvidence$Picture"), (cV, .object "DiskEvidence$Volume"), (cT, .object "DiskEvidence$Tree"), (cO, .object "DiskEvidence$Opening")] s) {H : Heap} {locs : List Loc} (hP : va_P (dC, dI) vwCl [(x0, .inr (11, (fsX g))), ((g 0), .inl (cB, 4000, (.inl (fun _ => 0)))), ((g 3), .inl (cP, 6, (.inr (.inr (.inr (.inr (fun _ => none))))))), ((g 14), .inr (0, (fs0 tf))), ((g 15), .inr (6, (fs6 tq))), ((g 16), .inr (8, (fs8 tt))), ((g 17), .inl (cI, 300, (.inl (fun _ => 0)))), ((g 18), .inl (cJ, 100, (.inr (.inl (fun _ => 0))))), (m0, .inr (12, (fsM gm))), ((gm 1), .inl (cI, 4000, (.inl (fun _ => 0)))), ((gm 4), .inl (cI, 6, (.inl (fun _ => 0)))), ((gm 5), .inl (cI, 49152, (.inl (fun _ => 0)))), ((gm 6), .inl (cZ, 768, (.inl (fun _ => 0)))), ((gm 168), .inl (cI, 100, (.inl (fun _ => 0)))), ((gm 169), .inl (cI, 100, (.inl (fun _ => 0)))), ((gm 170), .inl (cI, 100, (.inl (fun _ => 0)))), ((gm 171), .inl (cJ, 100, (.inr (.inl (fun _ => 0)))))] H) (hD : va_D A [(x0, .inr (11, (fsX g))), ((g 0), .inl (cB, 4000, (.inl (fun _ => 0)))), ((g 3), .inl (cP, 6, (.inr (.inr (.inr (.inr (fun _ => none))))))), ((g 14), .inr (0, (fs0 tf))), ((g 15), .inr (6, (fs6 tq))), ((g 16), .inr (8, (fs8 tt))), ((g 17), .inl (cI, 300, (.inl (fun _ => 0)))), ((g 18), .inl (cJ, 100, (.inr (.inl (fun _ => 0))))), (m0, .inr (12, (fsM gm))), ((gm 1), .inl (cI, 4000, (.inl (fun _ => 0)))), ((gm 4), .inl (cI, 6, (.inl (fun _ => 0)))), ((gm 5), .inl (cI, 49152, (.inl (fun _ => 0)))), ((gm 6), .inl (cZ, 768, (.inl (fun _ => 0)))), ((gm 168), .inl (cI, 100, (.inl (fun _ => 0)))), ((gm 169), .inl (cI, 100, (.inl (fun _ => 0)))), ((gm 170), .inl (cI, 100, (.inl (fun _ => 0)))), ((gm 171), .inl (cJ, 100, (.inr (.inl (fun _ => 0)))))]) (hS : va_S A s.heap H locs) (ls : Array Slot) (hl : lv_has ls 4 [(3, .int 0), (2, .ref m0), (1, .ref x0), (0, .ref b)]) : W p l e room_1 s m #[Value.ref b] below meth c H locs 147 815844 (lw_Z below #[Value.ref b] s) (F0 m 782 ls []) := by
  subst hL
  obtain ⟨hx, hb, hr, hml, hown, hts, hX, hbl, hlocks, hgv⟩ := id C0
  have hown : s.vm.findClass RL = some m.cls := hown
  have hbA : ¬ A b := fun h => absurd (hAl b h) (Nat.not_le.mpr hbl)
  refine lv_aload_n hx hb dL_law_782 rfl (lv_at hl 2 rfl) ?_
  refine lv_aload_n hx hb dL_law_783 rfl (lv_at hl 3 rfl) ?_
  refine lv_iload_n hx hb dL_law_784 rfl (lv_at hl 0 rfl) ?_
  refine lv_iconst (v := 1) hx hb dL_law_785 (by decide) ?_
  refine lv_iadd hx hb dL_law_786 ?_
  refine lv_topi (fun f_1 ef_1 => ?_)
  obtain rfl : (1 : Int32) = f_1 := (ef_1.trans (by decide)).symm
  refine va_sld hx hb hX hbl hbA hS (vp_in_nI (n := 1) (N := 5) (by decide) (by decide)) dL_law_787 ?_
  refine lv_aload_n hx hb dL_law_788 rfl (lv_at hl 3 rfl) ?_
  refine lv_iload_n hx hb dL_law_789 rfl (lv_at hl 0 rfl) ?_
  refine lv_iconst (v := 2) hx hb dL_law_790 (by decide) ?_
  refine lv_iadd hx hb dL_law_791 ?_
  refine lv_topi (fun f_2 ef_2 => ?_)
  obtain rfl : (2 : Int32) = f_2 := (ef_2.trans (by decide)).symm
  refine va_sld hx hb hX hbl hbA hS (vp_in_nI (n := 2) (N := 5) (by decide) (by decide)) dL_law_792 ?_
  have hPc := hP.sub (ws' := [(x0, .inr (11, (fsX g)))]) [0] rfl
  have hDc := hD.sub (ws' := [(x0, .inr (11, (fsX g)))]) [0] (by decide) rfl
  have hKc := hK
  refine vp_callSi (va_Run.run (va_runV (As := [.int (xs (1 : Int32).toNatClampNeg), .int (xs (2 : Int32).toNatClampNeg)]) (rest := []) ⟨hx, hb, hml, hown, hts⟩ (c_X11_volumeByte l dC dI cI cB cZ cJ cC cP cV cT cO H.size x0 g (xs (1 : Int32).toNatClampNeg) (xs (2 : Int32).toNatClampNeg)) (cwV 2 hts gq_L_law_X11_volumeByte_83 rfl rfl rfl (by decide +kernel) ⟨Nat.le_of_ble_eq_true rfl, Nat.le_of_ble_eq_true rfl⟩) ⟨fun a U g mk q => by obtain ⟨q0, q1, qP, qK, qD⟩ := q; exact ⟨q0, q1, qP, va_K.moved (u := U) (U := U.calling g mk a) (Vm.Alike.refl U.vm) qK, qD⟩, va_recv hKc hPc (ci := 11) (q0 := 0) rfl rfl, fun U hU hW => ⟨rfl, by rw [hU], by rw [hU]; exact hPc, va_K.moved hW.alike hKc, hDc.weaken (fun _ _ _ _ => trivial)⟩⟩ rfl rfl hl.1 rfl (lv_room (Nat.le_of_ble_eq_true rfl)) dL_law_793 ⟨Nat.le_of_ble_eq_true rfl, Nat.le_of_ble_eq_true rfl⟩)) (fun r_3 hr_3 => ?_)
  obtain rfl : r_3 = (-2) := hr_3
  refine lv_aload_n hx hb dL_law_796 rfl (lv_at hl 1 rfl) ?_
  refine lv_aload_n hx hb dL_law_797 rfl (lv_at hl 3 rfl) ?_
  refine lv_iload_n hx hb dL_law_798 rfl (lv_at hl 0 rfl) ?_
  refine lv_iconst (v := 1) hx hb dL_law_799 (by decide) ?_
  refine lv_iadd hx hb dL_law_800 ?_
  refine lv_topi (fun f_4 ef_4 => ?_)
  obtain rfl : (1 : Int32) = f_4 := (ef_4.trans (by decide)).symm
  refine va_sld hx hb hX hbl hbA hS (vp_in_nI (n := 1) (N := 5) (by decide) (by decide)) dL_law_801 ?_
  refine lv_aload_n hx hb dL_law_802 rfl (lv_at hl 3 rfl) ?_
  refine lv_iload_n hx hb dL_law_803 rfl (lv_at hl 0 rfl) ?_
  refine lv_iconst (v := 2) hx hb dL_law_804 (by decide) ?_
  refine lv_iadd hx hb dL_law_805 ?_
  refine lv_topi (fun f_5 ef_5 => ?_)
  obtain rfl : (2 : Int32) = f_5 := (ef_5.trans (by decide)).symm
  refine va_sld hx hb hX hbl hbA hS (vp_in_nI (n := 2) (N := 5) (by decide) (by decide)) dL_law_806 ?_
  have hPc := hP.sub (ws' := [(m0, .inr (12, (fsM gm)))]) [8] rfl
  have hDc := hD.sub (ws' := [(m0, .inr (12, (fsM gm)))]) [8] (by decide) rfl
  have hKc := hK
  refine vp_callSi (va_Run.run (va_runV (As := [.int (xs (1 : Int32).toNatClampNeg), .int (xs (2 : Int32).toNatClampNeg)]) (rest := [.int (-2)]) ⟨hx, hb, hml, hown, hts⟩ (c_X12_volumeByte l dC dI cI cB cZ cJ cC cP cV cT cO H.size m0 gm (xs (1 : Int32).toNatClampNeg) (xs (2 : Int32).toNatClampNeg)) (cwV 2 hts gq_L_law_X12_volumeByte_86 rfl rfl rfl (by decide +kernel) ⟨Nat.le_of_ble_eq_true rfl, Nat.le_of_ble_eq_true rfl⟩) ⟨fun a U g mk q => by obtain ⟨q0, q1, qP, qK, qD⟩ := q; exact ⟨q0, q1, qP, va_K.moved (u := U) (U := U.calling g mk a) (Vm.Alike.refl U.vm) qK, qD⟩, va_recv hKc hPc (ci := 12) (q0 := 0) rfl rfl, fun U hU hW => ⟨rfl, by rw [hU], by rw [hU]; exact hPc, va_K.moved hW.alike hKc, hDc.weaken (fun _ _ _ _ => trivial)⟩⟩ rfl rfl hl.1 rfl (lv_room (Nat.le_of_ble_eq_true rfl)) dL_law_807 ⟨Nat.le_of_ble_eq_true rfl, Nat.le_of_ble_eq_true rfl⟩)) (fun r_6 hr_6 => ?_)
  obtain rfl : r_6 = (-2) := hr_6
  refine lv_icmp_eq (tgt := 1979) hx hb dL_law_810 (by decide) (fun _ => ?_) (fun c_7 => absurd (by decide) c_7)
  exact law_tail l C0 hA hAl rfl hS (Nat.le_of_ble_eq_true rfl) (Nat.le_of_ble_eq_true rfl) x0 m0 ls (lv_sub hl [0, 1, 2, 3] rfl)
set_option maxHeartbeats 40000000 in
set_option maxRecDepth 100000 in
theorem law_case_16 {p : Program} {e : Env} {s : State} {m : MethodId} {below : List Frame} {meth : Method} {c : Code} (l : Launch) {b L : Nat} {xs : Nat → Int32} (C0 : lw_At p s m meth c b L xs) {A : Nat → Prop} (hA : ∀ q : Nat, s.heap.size ≤ q → A q) (hAl : ∀ q : Nat, A q → s.heap.size ≤ q) (hL : L = 5) (dC : Nat → ClassId) (dI : Nat → Nat → Nat) (cI cB cZ cJ cC cP cV cT cO : ClassId) (x0 m0 : Nat) (g tf tq tt gm : Nat → Nat) (hK : va_K (dC, dI) vwCl [(cI, .int), (cB, .byte), (cZ, .boolean), (cJ, .long), (cC, .char), (cP, .object "DiskEvidence$Picture"), (cV, .object "DiskEvidence$Volume"), (cT, .object "DiskEvidence$Tree"), (cO, .object "DiskEvidence$Opening")] s) {H : Heap} {locs : List Loc} (hP : va_P (dC, dI) vwCl [(x0, .inr (11, (fsX g))), ((g 0), .inl (cB, 4000, (.inl (fun _ => 0)))), ((g 3), .inl (cP, 6, (.inr (.inr (.inr (.inr (fun _ => none))))))), ((g 14), .inr (0, (fs0 tf))), ((g 15), .inr (6, (fs6 tq))), ((g 16), .inr (8, (fs8 tt))), ((g 17), .inl (cI, 300, (.inl (fun _ => 0)))), ((g 18), .inl (cJ, 100, (.inr (.inl (fun _ => 0))))), (m0, .inr (12, (fsM gm))), ((gm 1), .inl (cI, 4000, (.inl (fun _ => 0)))), ((gm 4), .inl (cI, 6, (.inl (fun _ => 0)))), ((gm 5), .inl (cI, 49152, (.inl (fun _ => 0)))), ((gm 6), .inl (cZ, 768, (.inl (fun _ => 0)))), ((gm 168), .inl (cI, 100, (.inl (fun _ => 0)))), ((gm 169), .inl (cI, 100, (.inl (fun _ => 0)))), ((gm 170), .inl (cI, 100, (.inl (fun _ => 0)))), ((gm 171), .inl (cJ, 100, (.inr (.inl (fun _ => 0)))))] H) (hD : va_D A [(x0, .inr (11, (fsX g))), ((g 0), .inl (cB, 4000, (.inl (fun _ => 0)))), ((g 3), .inl (cP, 6, (.inr (.inr (.inr (.inr (fun _ => none))))))), ((g 14), .inr (0, (fs0 tf))), ((g 15), .inr (6, (fs6 tq))), ((g 16), .inr (8, (fs8 tt))), ((g 17), .inl (cI, 300, (.inl (fun _ => 0)))), ((g 18), .inl (cJ, 100, (.inr (.inl (fun _ => 0))))), (m0, .inr (12, (fsM gm))), ((gm 1), .inl (cI, 4000, (.inl (fun _ => 0)))), ((gm 4), .inl (cI, 6, (.inl (fun _ => 0)))), ((gm 5), .inl (cI, 49152, (.inl (fun _ => 0)))), ((gm 6), .inl (cZ, 768, (.inl (fun _ => 0)))), ((gm 168), .inl (cI, 100, (.inl (fun _ => 0)))), ((gm 169), .inl (cI, 100, (.inl (fun _ => 0)))), ((gm 170), .inl (cI, 100, (.inl (fun _ => 0)))), ((gm 171), .inl (cJ, 100, (.inr (.inl (fun _ => 0)))))]) (hS : va_S A s.heap H locs) (ls : Array Slot) (hl : lv_has ls 4 [(3, .int 0), (2, .ref m0), (1, .ref x0), (0, .ref b)]) : W p l e room_1 s m #[Value.ref b] below meth c H locs 147 815844 (lw_Z below #[Value.ref b] s) (F0 m 815 ls []) := by
  subst hL
  obtain ⟨hx, hb, hr, hml, hown, hts, hX, hbl, hlocks, hgv⟩ := id C0
  have hown : s.vm.findClass RL = some m.cls := hown
  have hbA : ¬ A b := fun h => absurd (hAl b h) (Nat.not_le.mpr hbl)
  refine lv_aload_n hx hb dL_law_815 rfl (lv_at hl 2 rfl) ?_
  refine lv_aload_n hx hb dL_law_816 rfl (lv_at hl 3 rfl) ?_
  refine lv_iload_n hx hb dL_law_817 rfl (lv_at hl 0 rfl) ?_
  refine lv_iconst (v := 1) hx hb dL_law_818 (by decide) ?_
  refine lv_iadd hx hb dL_law_819 ?_
  refine lv_topi (fun f_1 ef_1 => ?_)
  obtain rfl : (1 : Int32) = f_1 := (ef_1.trans (by decide)).symm
  refine va_sld hx hb hX hbl hbA hS (vp_in_nI (n := 1) (N := 5) (by decide) (by decide)) dL_law_820 ?_
  refine lv_aload_n hx hb dL_law_821 rfl (lv_at hl 3 rfl) ?_
  refine lv_iload_n hx hb dL_law_822 rfl (lv_at hl 0 rfl) ?_
  refine lv_iconst (v := 2) hx hb dL_law_823 (by decide) ?_
  refine lv_iadd hx hb dL_law_824 ?_
  refine lv_topi (fun f_2 ef_2 => ?_)
  obtain rfl : (2 : Int32) = f_2 := (ef_2.trans (by decide)).symm
  refine va_sld hx hb hX hbl hbA hS (vp_in_nI (n := 2) (N := 5) (by decide) (by decide)) dL_law_825 ?_
  have hPc := hP.sub (ws' := [(x0, .inr (11, (fsX g)))]) [0] rfl
  have hDc := hD.sub (ws' := [(x0, .inr (11, (fsX g)))]) [0] (by decide) rfl
  have hKc := hK
  refine vp_callSi (va_Run.run (va_runV (As := [.int (xs (1 : Int32).toNatClampNeg), .int (xs (2 : Int32).toNatClampNeg)]) (rest := []) ⟨hx, hb, hml, hown, hts⟩ (c_X11_where l dC dI cI cB cZ cJ cC cP cV cT cO H.size x0 g (xs (1 : Int32).toNatClampNeg) (xs (2 : Int32).toNatClampNeg)) (cwV 2 hts gq_L_law_X11_where_87 rfl rfl rfl (by decide +kernel) ⟨Nat.le_of_ble_eq_true rfl, Nat.le_of_ble_eq_true rfl⟩) ⟨fun a U g mk q => by obtain ⟨q0, q1, qP, qK, qD⟩ := q; exact ⟨q0, q1, qP, va_K.moved (u := U) (U := U.calling g mk a) (Vm.Alike.refl U.vm) qK, qD⟩, va_recv hKc hPc (ci := 11) (q0 := 0) rfl rfl, fun U hU hW => ⟨rfl, by rw [hU], by rw [hU]; exact hPc, va_K.moved hW.alike hKc, hDc.weaken (fun _ _ _ _ => trivial)⟩⟩ rfl rfl hl.1 rfl (lv_room (Nat.le_of_ble_eq_true rfl)) dL_law_826 ⟨Nat.le_of_ble_eq_true rfl, Nat.le_of_ble_eq_true rfl⟩)) (fun r_3 hr_3 => ?_)
  obtain rfl : r_3 = (-2) := hr_3
  refine lv_aload_n hx hb dL_law_829 rfl (lv_at hl 1 rfl) ?_
  refine lv_aload_n hx hb dL_law_830 rfl (lv_at hl 3 rfl) ?_
  refine lv_iload_n hx hb dL_law_831 rfl (lv_at hl 0 rfl) ?_
  refine lv_iconst (v := 1) hx hb dL_law_832 (by decide) ?_
  refine lv_iadd hx hb dL_law_833 ?_
  refine lv_topi (fun f_4 ef_4 => ?_)
  obtain rfl : (1 : Int32) = f_4 := (ef_4.trans (by decide)).symm
  refine va_sld hx hb hX hbl hbA hS (vp_in_nI (n := 1) (N := 5) (by decide) (by decide)) dL_law_834 ?_
  refine lv_aload_n hx hb dL_law_835 rfl (lv_at hl 3 rfl) ?_
  refine lv_iload_n hx hb dL_law_836 rfl (lv_at hl 0 rfl) ?_
  refine lv_iconst (v := 2) hx hb dL_law_837 (by decide) ?_
  refine lv_iadd hx hb dL_law_838 ?_
  refine lv_topi (fun f_5 ef_5 => ?_)
  obtain rfl : (2 : Int32) = f_5 := (ef_5.trans (by decide)).symm
  refine va_sld hx hb hX hbl hbA hS (vp_in_nI (n := 2) (N := 5) (by decide) (by decide)) dL_law_839 ?_
  have hPc := hP.sub (ws' := [(m0, .inr (12, (fsM gm)))]) [8] rfl
  have hDc := hD.sub (ws' := [(m0, .inr (12, (fsM gm)))]) [8] (by decide) rfl
  have hKc := hK
  refine vp_callSi (va_Run.run (va_runV (As := [.int (xs (1 : Int32).toNatClampNeg), .int (xs (2 : Int32).toNatClampNeg)]) (rest := [.int (-2)]) ⟨hx, hb, hml, hown, hts⟩ (c_X12_where l dC dI cI cB cZ cJ cC cP cV cT cO H.size m0 gm (xs (1 : Int32).toNatClampNeg) (xs (2 : Int32).toNatClampNeg)) (cwV 2 hts gq_L_law_X12_where_90 rfl rfl rfl (by decide +kernel) ⟨Nat.le_of_ble_eq_true rfl, Nat.le_of_ble_eq_true rfl⟩) ⟨fun a U g mk q => by obtain ⟨q0, q1, qP, qK, qD⟩ := q; exact ⟨q0, q1, qP, va_K.moved (u := U) (U := U.calling g mk a) (Vm.Alike.refl U.vm) qK, qD⟩, va_recv hKc hPc (ci := 12) (q0 := 0) rfl rfl, fun U hU hW => ⟨rfl, by rw [hU], by rw [hU]; exact hPc, va_K.moved hW.alike hKc, hDc.weaken (fun _ _ _ _ => trivial)⟩⟩ rfl rfl hl.1 rfl (lv_room (Nat.le_of_ble_eq_true rfl)) dL_law_840 ⟨Nat.le_of_ble_eq_true rfl, Nat.le_of_ble_eq_true rfl⟩)) (fun r_6 hr_6 => ?_)
  obtain rfl : r_6 = (-2) := hr_6
  refine lv_icmp_eq (tgt := 1979) hx hb dL_law_843 (by decide) (fun _ => ?_) (fun c_7 => absurd (by decide) c_7)
  exact law_tail l C0 hA hAl rfl hS (Nat.le_of_ble_eq_true rfl) (Nat.le_of_ble_eq_true rfl) x0 m0 ls (lv_sub hl [0, 1, 2, 3] rfl)
set_option maxHeartbeats 40000000 in
set_option maxRecDepth 100000 in
theorem law_case_17 {p : Program} {e : Env} {s : State} {m : MethodId} {below : List Frame} {meth : Method} {c : Code} (l : Launch) {b L : Nat} {xs : Nat → Int32} (C0 : lw_At p s m meth c b L xs) {A : Nat → Prop} (hA : ∀ q : Nat, s.heap.size ≤ q → A q) (hAl : ∀ q : Nat, A q → s.heap.size ≤ q) (hL : L = 5) (dC : Nat → ClassId) (dI : Nat → Nat → Nat) (cI cB cZ cJ cC cP cV cT cO : ClassId) (x0 m0 : Nat) (g tf tq tt gm : Nat → Nat) (hK : va_K (dC, dI) vwCl [(cI, .int), (cB, .byte), (cZ, .boolean), (cJ, .long), (cC, .char), (cP, .object "DiskEvidence$Picture"), (cV, .object "DiskEvidence$Volume"), (cT, .object "DiskEvidence$Tree"), (cO, .object "DiskEvidence$Opening")] s) {H : Heap} {locs : List Loc} (hP : va_P (dC, dI) vwCl [(x0, .inr (11, (fsX g))), ((g 0), .inl (cB, 4000, (.inl (fun _ => 0)))), ((g 3), .inl (cP, 6, (.inr (.inr (.inr (.inr (fun _ => none))))))), ((g 14), .inr (0, (fs0 tf))), ((g 15), .inr (6, (fs6 tq))), ((g 16), .inr (8, (fs8 tt))), ((g 17), .inl (cI, 300, (.inl (fun _ => 0)))), ((g 18), .inl (cJ, 100, (.inr (.inl (fun _ => 0))))), (m0, .inr (12, (fsM gm))), ((gm 1), .inl (cI, 4000, (.inl (fun _ => 0)))), ((gm 4), .inl (cI, 6, (.inl (fun _ => 0)))), ((gm 5), .inl (cI, 49152, (.inl (fun _ => 0)))), ((gm 6), .inl (cZ, 768, (.inl (fun _ => 0)))), ((gm 168), .inl (cI, 100, (.inl (fun _ => 0)))), ((gm 169), .inl (cI, 100, (.inl (fun _ => 0)))), ((gm 170), .inl (cI, 100, (.inl (fun _ => 0)))), ((gm 171), .inl (cJ, 100, (.inr (.inl (fun _ => 0)))))] H) (hD : va_D A [(x0, .inr (11, (fsX g))), ((g 0), .inl (cB, 4000, (.inl (fun _ => 0)))), ((g 3), .inl (cP, 6, (.inr (.inr (.inr (.inr (fun _ => none))))))), ((g 14), .inr (0, (fs0 tf))), ((g 15), .inr (6, (fs6 tq))), ((g 16), .inr (8, (fs8 tt))), ((g 17), .inl (cI, 300, (.inl (fun _ => 0)))), ((g 18), .inl (cJ, 100, (.inr (.inl (fun _ => 0))))), (m0, .inr (12, (fsM gm))), ((gm 1), .inl (cI, 4000, (.inl (fun _ => 0)))), ((gm 4), .inl (cI, 6, (.inl (fun _ => 0)))), ((gm 5), .inl (cI, 49152, (.inl (fun _ => 0)))), ((gm 6), .inl (cZ, 768, (.inl (fun _ => 0)))), ((gm 168), .inl (cI, 100, (.inl (fun _ => 0)))), ((gm 169), .inl (cI, 100, (.inl (fun _ => 0)))), ((gm 170), .inl (cI, 100, (.inl (fun _ => 0)))), ((gm 171), .inl (cJ, 100, (.inr (.inl (fun _ => 0)))))]) (hS : va_S A s.heap H locs) (ls : Array Slot) (hl : lv_has ls 4 [(3, .int 0), (2, .ref m0), (1, .ref x0), (0, .ref b)]) : W p l e room_1 s m #[Value.ref b] below meth c H locs 147 815844 (lw_Z below #[Value.ref b] s) (F0 m 848 ls []) := by
  subst hL
  obtain ⟨hx, hb, hr, hml, hown, hts, hX, hbl, hlocks, hgv⟩ := id C0
  have hown : s.vm.findClass RL = some m.cls := hown
  have hbA : ¬ A b := fun h => absurd (hAl b h) (Nat.not_le.mpr hbl)
  refine lv_aload_n hx hb dL_law_848 rfl (lv_at hl 2 rfl) ?_
  refine lv_aload_n hx hb dL_law_849 rfl (lv_at hl 3 rfl) ?_
  refine lv_iload_n hx hb dL_law_850 rfl (lv_at hl 0 rfl) ?_
  refine lv_iconst (v := 1) hx hb dL_law_851 (by decide) ?_
  refine lv_iadd hx hb dL_law_852 ?_
  refine lv_topi (fun f_1 ef_1 => ?_)
  obtain rfl : (1 : Int32) = f_1 := (ef_1.trans (by decide)).symm
  refine va_sld hx hb hX hbl hbA hS (vp_in_nI (n := 1) (N := 5) (by decide) (by decide)) dL_law_853 ?_
  refine lv_aload_n hx hb dL_law_854 rfl (lv_at hl 3 rfl) ?_
  refine lv_iload_n hx hb dL_law_855 rfl (lv_at hl 0 rfl) ?_
  refine lv_iconst (v := 2) hx hb dL_law_856 (by decide) ?_
  refine lv_iadd hx hb dL_law_857 ?_
  refine lv_topi (fun f_2 ef_2 => ?_)
  obtain rfl : (2 : Int32) = f_2 := (ef_2.trans (by decide)).symm
  refine va_sld hx hb hX hbl hbA hS (vp_in_nI (n := 2) (N := 5) (by decide) (by decide)) dL_law_858 ?_
  refine lv_aload_n hx hb dL_law_859 rfl (lv_at hl 3 rfl) ?_
  refine lv_iload_n hx hb dL_law_860 rfl (lv_at hl 0 rfl) ?_
  refine lv_iconst (v := 3) hx hb dL_law_861 (by decide) ?_
  refine lv_iadd hx hb dL_law_862 ?_
  refine lv_topi (fun f_3 ef_3 => ?_)
  obtain rfl : (3 : Int32) = f_3 := (ef_3.trans (by decide)).symm
  refine va_sld hx hb hX hbl hbA hS (vp_in_nI (n := 3) (N := 5) (by decide) (by decide)) dL_law_863 ?_
  have hPc := hP.sub (ws' := [(x0, .inr (11, (fsX g)))]) [0] rfl
  have hDc := hD.sub (ws' := [(x0, .inr (11, (fsX g)))]) [0] (by decide) rfl
  have hKc := hK
  refine vp_callSi (va_Run.run (va_runV (As := [.int (xs (1 : Int32).toNatClampNeg), .int (xs (2 : Int32).toNatClampNeg), .int (xs (3 : Int32).toNatClampNeg)]) (rest := []) ⟨hx, hb, hml, hown, hts⟩ (c_X11_format l dC dI cI cB cZ cJ cC cP cV cT cO H.size x0 g (xs (1 : Int32).toNatClampNeg) (xs (2 : Int32).toNatClampNeg) (xs (3 : Int32).toNatClampNeg)) (cwV 3 hts gq_L_law_X11_format_91 rfl rfl rfl (by decide +kernel) ⟨Nat.le_of_ble_eq_true rfl, Nat.le_of_ble_eq_true rfl⟩) ⟨fun a U g mk q => by obtain ⟨q0, q1, qP, qK, qD⟩ := q; exact ⟨q0, q1, qP, va_K.moved (u := U) (U := U.calling g mk a) (Vm.Alike.refl U.vm) qK, qD⟩, va_recv hKc hPc (ci := 11) (q0 := 0) rfl rfl, fun U hU hW => ⟨rfl, by rw [hU], by rw [hU]; exact hPc, va_K.moved hW.alike hKc, hDc.weaken (fun _ _ _ _ => trivial)⟩⟩ rfl rfl hl.1 rfl (lv_room (Nat.le_of_ble_eq_true rfl)) dL_law_864 ⟨Nat.le_of_ble_eq_true rfl, Nat.le_of_ble_eq_true rfl⟩)) (fun r_4 hr_4 => ?_)
  obtain rfl : r_4 = (-2) := hr_4
  refine lv_aload_n hx hb dL_law_867 rfl (lv_at hl 1 rfl) ?_
  refine lv_aload_n hx hb dL_law_868 rfl (lv_at hl 3 rfl) ?_
  refine lv_iload_n hx hb dL_law_869 rfl (lv_at hl 0 rfl) ?_
  refine lv_iconst (v := 1) hx hb dL_law_870 (by decide) ?_
  refine lv_iadd hx hb dL_law_871 ?_
  refine lv_topi (fun f_5 ef_5 => ?_)
  obtain rfl : (1 : Int32) = f_5 := (ef_5.trans (by decide)).symm
  refine va_sld hx hb hX hbl hbA hS (vp_in_nI (n := 1) (N := 5) (by decide) (by decide)) dL_law_872 ?_
  refine lv_aload_n hx hb dL_law_873 rfl (lv_at hl 3 rfl) ?_
  refine lv_iload_n hx hb dL_law_874 rfl (lv_at hl 0 rfl) ?_
  refine lv_iconst (v := 2) hx hb dL_law_875 (by decide) ?_
  refine lv_iadd hx hb dL_law_876 ?_
  refine lv_topi (fun f_6 ef_6 => ?_)
  obtain rfl : (2 : Int32) = f_6 := (ef_6.trans (by decide)).symm
  refine va_sld hx hb hX hbl hbA hS (vp_in_nI (n := 2) (N := 5) (by decide) (by decide)) dL_law_877 ?_
  refine lv_aload_n hx hb dL_law_878 rfl (lv_at hl 3 rfl) ?_
  refine lv_iload_n hx hb dL_law_879 rfl (lv_at hl 0 rfl) ?_
  refine lv_iconst (v := 3) hx hb dL_law_880 (by decide) ?_
  refine lv_iadd hx hb dL_law_881 ?_
  refine lv_topi (fun f_7 ef_7 => ?_)
  obtain rfl : (3 : Int32) = f_7 := (ef_7.trans (by decide)).symm
  refine va_sld hx hb hX hbl hbA hS (vp_in_nI (n := 3) (N := 5) (by decide) (by decide)) dL_law_882 ?_
  have hPc := hP.sub (ws' := [(m0, .inr (12, (fsM gm)))]) [8] rfl
  have hDc := hD.sub (ws' := [(m0, .inr (12, (fsM gm)))]) [8] (by decide) rfl
  have hKc := hK
  refine vp_callSi (va_Run.run (va_runV (As := [.int (xs (1 : Int32).toNatClampNeg), .int (xs (2 : Int32).toNatClampNeg), .int (xs (3 : Int32).toNatClampNeg)]) (rest := [.int (-2)]) ⟨hx, hb, hml, hown, hts⟩ (c_X12_format l dC dI cI cB cZ cJ cC cP cV cT cO H.size m0 gm (xs (1 : Int32).toNatClampNeg) (xs (2 : Int32).toNatClampNeg) (xs (3 : Int32).toNatClampNeg)) (cwV 3 hts gq_L_law_X12_format_94 rfl rfl rfl (by decide +kernel) ⟨Nat.le_of_ble_eq_true rfl, Nat.le_of_ble_eq_true rfl⟩) ⟨fun a U g mk q => by obtain ⟨q0, q1, qP, qK, qD⟩ := q; exact ⟨q0, q1, qP, va_K.moved (u := U) (U := U.calling g mk a) (Vm.Alike.refl U.vm) qK, qD⟩, va_recv hKc hPc (ci := 12) (q0 := 0) rfl rfl, fun U hU hW => ⟨rfl, by rw [hU], by rw [hU]; exact hPc, va_K.moved hW.alike hKc, hDc.weaken (fun _ _ _ _ => trivial)⟩⟩ rfl rfl hl.1 rfl (lv_room (Nat.le_of_ble_eq_true rfl)) dL_law_883 ⟨Nat.le_of_ble_eq_true rfl, Nat.le_of_ble_eq_true rfl⟩)) (fun r_8 hr_8 => ?_)
  obtain rfl : r_8 = (-2) := hr_8
  refine lv_icmp_eq (tgt := 1979) hx hb dL_law_886 (by decide) (fun _ => ?_) (fun c_9 => absurd (by decide) c_9)
  exact law_tail l C0 hA hAl rfl hS (Nat.le_of_ble_eq_true rfl) (Nat.le_of_ble_eq_true rfl) x0 m0 ls (lv_sub hl [0, 1, 2, 3] rfl)
set_option maxHeartbeats 40000000 in
set_option maxRecDepth 100000 in
theorem law_case_18 {p : Program} {e : Env} {s : State} {m : MethodId} {below : List Frame} {meth : Method} {c : Code} (l : Launch) {b L : Nat} {xs : Nat → Int32} (C0 : lw_At p s m meth c b L xs) {A : Nat → Prop} (hA : ∀ q : Nat, s.heap.size ≤ q → A q) (hAl : ∀ q : Nat, A q → s.heap.size ≤ q) (hL : L = 5) (dC : Nat → ClassId) (dI : Nat → Nat → Nat) (cI cB cZ cJ cC cP cV cT cO : ClassId) (x0 m0 : Nat) (g tf tq tt gm : Nat → Nat) (hK : va_K (dC, dI) vwCl [(cI, .int), (cB, .byte), (cZ, .boolean), (cJ, .long), (cC, .char), (cP, .object "DiskEvidence$Picture"), (cV, .object "DiskEvidence$Volume"), (cT, .object "DiskEvidence$Tree"), (cO, .object "DiskEvidence$Opening")] s) {H : Heap} {locs : List Loc} (hP : va_P (dC, dI) vwCl [(x0, .inr (11, (fsX g))), ((g 0), .inl (cB, 4000, (.inl (fun _ => 0)))), ((g 3), .inl (cP, 6, (.inr (.inr (.inr (.inr (fun _ => none))))))), ((g 14), .inr (0, (fs0 tf))), ((g 15), .inr (6, (fs6 tq))), ((g 16), .inr (8, (fs8 tt))), ((g 17), .inl (cI, 300, (.inl (fun _ => 0)))), ((g 18), .inl (cJ, 100, (.inr (.inl (fun _ => 0))))), (m0, .inr (12, (fsM gm))), ((gm 1), .inl (cI, 4000, (.inl (fun _ => 0)))), ((gm 4), .inl (cI, 6, (.inl (fun _ => 0)))), ((gm 5), .inl (cI, 49152, (.inl (fun _ => 0)))), ((gm 6), .inl (cZ, 768, (.inl (fun _ => 0)))), ((gm 168), .inl (cI, 100, (.inl (fun _ => 0)))), ((gm 169), .inl (cI, 100, (.inl (fun _ => 0)))), ((gm 170), .inl (cI, 100, (.inl (fun _ => 0)))), ((gm 171), .inl (cJ, 100, (.inr (.inl (fun _ => 0)))))] H) (hD : va_D A [(x0, .inr (11, (fsX g))), ((g 0), .inl (cB, 4000, (.inl (fun _ => 0)))), ((g 3), .inl (cP, 6, (.inr (.inr (.inr (.inr (fun _ => none))))))), ((g 14), .inr (0, (fs0 tf))), ((g 15), .inr (6, (fs6 tq))), ((g 16), .inr (8, (fs8 tt))), ((g 17), .inl (cI, 300, (.inl (fun _ => 0)))), ((g 18), .inl (cJ, 100, (.inr (.inl (fun _ => 0))))), (m0, .inr (12, (fsM gm))), ((gm 1), .inl (cI, 4000, (.inl (fun _ => 0)))), ((gm 4), .inl (cI, 6, (.inl (fun _ => 0)))), ((gm 5), .inl (cI, 49152, (.inl (fun _ => 0)))), ((gm 6), .inl (cZ, 768, (.inl (fun _ => 0)))), ((gm 168), .inl (cI, 100, (.inl (fun _ => 0)))), ((gm 169), .inl (cI, 100, (.inl (fun _ => 0)))), ((gm 170), .inl (cI, 100, (.inl (fun _ => 0)))), ((gm 171), .inl (cJ, 100, (.inr (.inl (fun _ => 0)))))]) (hS : va_S A s.heap H locs) (ls : Array Slot) (hl : lv_has ls 4 [(3, .int 0), (2, .ref m0), (1, .ref x0), (0, .ref b)]) : W p l e room_1 s m #[Value.ref b] below meth c H locs 147 815844 (lw_Z below #[Value.ref b] s) (F0 m 891 ls []) := by
  subst hL
  obtain ⟨hx, hb, hr, hml, hown, hts, hX, hbl, hlocks, hgv⟩ := id C0
  have hown : s.vm.findClass RL = some m.cls := hown
  have hbA : ¬ A b := fun h => absurd (hAl b h) (Nat.not_le.mpr hbl)
  refine lv_aload_n hx hb dL_law_891 rfl (lv_at hl 2 rfl) ?_
  refine lv_aload_n hx hb dL_law_892 rfl (lv_at hl 3 rfl) ?_
  refine lv_iload_n hx hb dL_law_893 rfl (lv_at hl 0 rfl) ?_
  refine lv_iconst (v := 1) hx hb dL_law_894 (by decide) ?_
  refine lv_iadd hx hb dL_law_895 ?_
  refine lv_topi (fun f_1 ef_1 => ?_)
  obtain rfl : (1 : Int32) = f_1 := (ef_1.trans (by decide)).symm
  refine va_sld hx hb hX hbl hbA hS (vp_in_nI (n := 1) (N := 5) (by decide) (by decide)) dL_law_896 ?_
  have hPc := hP.sub (ws' := [(x0, .inr (11, (fsX g)))]) [0] rfl
  have hDc := hD.sub (ws' := [(x0, .inr (11, (fsX g)))]) [0] (by decide) rfl
  have hKc := hK
  refine vp_callSi (va_Run.run (va_runV (As := [.int (xs (1 : Int32).toNatClampNeg)]) (rest := []) ⟨hx, hb, hml, hown, hts⟩ (c_X11_save l dC dI cI cB cZ cJ cC cP cV cT cO H.size x0 g (xs (1 : Int32).toNatClampNeg)) (cwV 1 hts gq_L_law_X11_save_95 rfl rfl rfl (by decide +kernel) ⟨Nat.le_of_ble_eq_true rfl, Nat.le_of_ble_eq_true rfl⟩) ⟨fun a U g mk q => by obtain ⟨q0, q1, qP, qK, qD⟩ := q; exact ⟨q0, q1, qP, va_K.moved (u := U) (U := U.calling g mk a) (Vm.Alike.refl U.vm) qK, qD⟩, va_recv hKc hPc (ci := 11) (q0 := 0) rfl rfl, fun U hU hW => ⟨rfl, by rw [hU], by rw [hU]; exact hPc, va_K.moved hW.alike hKc, hDc.weaken (fun _ _ _ _ => trivial)⟩⟩ rfl rfl hl.1 rfl (lv_room (Nat.le_of_ble_eq_true rfl)) dL_law_897 ⟨Nat.le_of_ble_eq_true rfl, Nat.le_of_ble_eq_true rfl⟩)) (fun r_2 hr_2 => ?_)
  obtain rfl : r_2 = (-2) := hr_2
  refine lv_aload_n hx hb dL_law_900 rfl (lv_at hl 1 rfl) ?_
  refine lv_aload_n hx hb dL_law_901 rfl (lv_at hl 3 rfl) ?_
  refine lv_iload_n hx hb dL_law_902 rfl (lv_at hl 0 rfl) ?_
  refine lv_iconst (v := 1) hx hb dL_law_903 (by decide) ?_
  refine lv_iadd hx hb dL_law_904 ?_
  refine lv_topi (fun f_3 ef_3 => ?_)
  obtain rfl : (1 : Int32) = f_3 := (ef_3.trans (by decide)).symm
  refine va_sld hx hb hX hbl hbA hS (vp_in_nI (n := 1) (N := 5) (by decide) (by decide)) dL_law_905 ?_
  have hPc := hP.sub (ws' := [(m0, .inr (12, (fsM gm)))]) [8] rfl
  have hDc := hD.sub (ws' := [(m0, .inr (12, (fsM gm)))]) [8] (by decide) rfl
  have hKc := hK
  refine vp_callSi (va_Run.run (va_runV (As := [.int (xs (1 : Int32).toNatClampNeg)]) (rest := [.int (-2)]) ⟨hx, hb, hml, hown, hts⟩ (c_X12_save l dC dI cI cB cZ cJ cC cP cV cT cO H.size m0 gm (xs (1 : Int32).toNatClampNeg)) (cwV 1 hts gq_L_law_X12_save_98 rfl rfl rfl (by decide +kernel) ⟨Nat.le_of_ble_eq_true rfl, Nat.le_of_ble_eq_true rfl⟩) ⟨fun a U g mk q => by obtain ⟨q0, q1, qP, qK, qD⟩ := q; exact ⟨q0, q1, qP, va_K.moved (u := U) (U := U.calling g mk a) (Vm.Alike.refl U.vm) qK, qD⟩, va_recv hKc hPc (ci := 12) (q0 := 0) rfl rfl, fun U hU hW => ⟨rfl, by rw [hU], by rw [hU]; exact hPc, va_K.moved hW.alike hKc, hDc.weaken (fun _ _ _ _ => trivial)⟩⟩ rfl rfl hl.1 rfl (lv_room (Nat.le_of_ble_eq_true rfl)) dL_law_906 ⟨Nat.le_of_ble_eq_true rfl, Nat.le_of_ble_eq_true rfl⟩)) (fun r_4 hr_4 => ?_)
  obtain rfl : r_4 = (-2) := hr_4
  refine lv_icmp_eq (tgt := 1979) hx hb dL_law_909 (by decide) (fun _ => ?_) (fun c_5 => absurd (by decide) c_5)
  exact law_tail l C0 hA hAl rfl hS (Nat.le_of_ble_eq_true rfl) (Nat.le_of_ble_eq_true rfl) x0 m0 ls (lv_sub hl [0, 1, 2, 3] rfl)
set_option maxHeartbeats 40000000 in
set_option maxRecDepth 100000 in
theorem law_case_19 {p : Program} {e : Env} {s : State} {m : MethodId} {below : List Frame} {meth : Method} {c : Code} (l : Launch) {b L : Nat} {xs : Nat → Int32} (C0 : lw_At p s m meth c b L xs) {A : Nat → Prop} (hA : ∀ q : Nat, s.heap.size ≤ q → A q) (hAl : ∀ q : Nat, A q → s.heap.size ≤ q) (hL : L = 5) (dC : Nat → ClassId) (dI : Nat → Nat → Nat) (cI cB cZ cJ cC cP cV cT cO : ClassId) (x0 m0 : Nat) (g tf tq tt gm : Nat → Nat) (hK : va_K (dC, dI) vwCl [(cI, .int), (cB, .byte), (cZ, .boolean), (cJ, .long), (cC, .char), (cP, .object "DiskEvidence$Picture"), (cV, .object "DiskEvidence$Volume"), (cT, .object "DiskEvidence$Tree"), (cO, .object "DiskEvidence$Opening")] s) {H : Heap} {locs : List Loc} (hP : va_P (dC, dI) vwCl [(x0, .inr (11, (fsX g))), ((g 0), .inl (cB, 4000, (.inl (fun _ => 0)))), ((g 3), .inl (cP, 6, (.inr (.inr (.inr (.inr (fun _ => none))))))), ((g 14), .inr (0, (fs0 tf))), ((g 15), .inr (6, (fs6 tq))), ((g 16), .inr (8, (fs8 tt))), ((g 17), .inl (cI, 300, (.inl (fun _ => 0)))), ((g 18), .inl (cJ, 100, (.inr (.inl (fun _ => 0))))), (m0, .inr (12, (fsM gm))), ((gm 1), .inl (cI, 4000, (.inl (fun _ => 0)))), ((gm 4), .inl (cI, 6, (.inl (fun _ => 0)))), ((gm 5), .inl (cI, 49152, (.inl (fun _ => 0)))), ((gm 6), .inl (cZ, 768, (.inl (fun _ => 0)))), ((gm 168), .inl (cI, 100, (.inl (fun _ => 0)))), ((gm 169), .inl (cI, 100, (.inl (fun _ => 0)))), ((gm 170), .inl (cI, 100, (.inl (fun _ => 0)))), ((gm 171), .inl (cJ, 100, (.inr (.inl (fun _ => 0)))))] H) (hD : va_D A [(x0, .inr (11, (fsX g))), ((g 0), .inl (cB, 4000, (.inl (fun _ => 0)))), ((g 3), .inl (cP, 6, (.inr (.inr (.inr (.inr (fun _ => none))))))), ((g 14), .inr (0, (fs0 tf))), ((g 15), .inr (6, (fs6 tq))), ((g 16), .inr (8, (fs8 tt))), ((g 17), .inl (cI, 300, (.inl (fun _ => 0)))), ((g 18), .inl (cJ, 100, (.inr (.inl (fun _ => 0))))), (m0, .inr (12, (fsM gm))), ((gm 1), .inl (cI, 4000, (.inl (fun _ => 0)))), ((gm 4), .inl (cI, 6, (.inl (fun _ => 0)))), ((gm 5), .inl (cI, 49152, (.inl (fun _ => 0)))), ((gm 6), .inl (cZ, 768, (.inl (fun _ => 0)))), ((gm 168), .inl (cI, 100, (.inl (fun _ => 0)))), ((gm 169), .inl (cI, 100, (.inl (fun _ => 0)))), ((gm 170), .inl (cI, 100, (.inl (fun _ => 0)))), ((gm 171), .inl (cJ, 100, (.inr (.inl (fun _ => 0)))))]) (hS : va_S A s.heap H locs) (ls : Array Slot) (hl : lv_has ls 4 [(3, .int 0), (2, .ref m0), (1, .ref x0), (0, .ref b)]) : W p l e room_1 s m #[Value.ref b] below meth c H locs 147 815844 (lw_Z below #[Value.ref b] s) (F0 m 914 ls []) := by
  subst hL
  obtain ⟨hx, hb, hr, hml, hown, hts, hX, hbl, hlocks, hgv⟩ := id C0
  have hown : s.vm.findClass RL = some m.cls := hown
  have hbA : ¬ A b := fun h => absurd (hAl b h) (Nat.not_le.mpr hbl)
  refine lv_aload_n hx hb dL_law_914 rfl (lv_at hl 2 rfl) ?_
  refine lv_aload_n hx hb dL_law_915 rfl (lv_at hl 3 rfl) ?_
  refine lv_iload_n hx hb dL_law_916 rfl (lv_at hl 0 rfl) ?_
  refine lv_iconst (v := 1) hx hb dL_law_917 (by decide) ?_
  refine lv_iadd hx hb dL_law_918 ?_
  refine lv_topi (fun f_1 ef_1 => ?_)
  obtain rfl : (1 : Int32) = f_1 := (ef_1.trans (by decide)).symm
  refine va_sld hx hb hX hbl hbA hS (vp_in_nI (n := 1) (N := 5) (by decide) (by decide)) dL_law_919 ?_
  have hPc := hP.sub (ws' := [(x0, .inr (11, (fsX g)))]) [0] rfl
  have hDc := hD.sub (ws' := [(x0, .inr (11, (fsX g)))]) [0] (by decide) rfl
  have hKc := hK
  refine vp_callSi (va_Run.run (va_runV (As := [.int (xs (1 : Int32).toNatClampNeg)]) (rest := []) ⟨hx, hb, hml, hown, hts⟩ (c_X11_folder l dC dI cI cB cZ cJ cC cP cV cT cO H.size x0 g (xs (1 : Int32).toNatClampNeg)) (cwV 1 hts gq_L_law_X11_folder_99 rfl rfl rfl (by decide +kernel) ⟨Nat.le_of_ble_eq_true rfl, Nat.le_of_ble_eq_true rfl⟩) ⟨fun a U g mk q => by obtain ⟨q0, q1, qP, qK, qD⟩ := q; exact ⟨q0, q1, qP, va_K.moved (u := U) (U := U.calling g mk a) (Vm.Alike.refl U.vm) qK, qD⟩, va_recv hKc hPc (ci := 11) (q0 := 0) rfl rfl, fun U hU hW => ⟨rfl, by rw [hU], by rw [hU]; exact hPc, va_K.moved hW.alike hKc, hDc.weaken (fun _ _ _ _ => trivial)⟩⟩ rfl rfl hl.1 rfl (lv_room (Nat.le_of_ble_eq_true rfl)) dL_law_920 ⟨Nat.le_of_ble_eq_true rfl, Nat.le_of_ble_eq_true rfl⟩)) (fun r_2 hr_2 => ?_)
  obtain rfl : r_2 = (-2) := hr_2
  refine lv_aload_n hx hb dL_law_923 rfl (lv_at hl 1 rfl) ?_
  refine lv_aload_n hx hb dL_law_924 rfl (lv_at hl 3 rfl) ?_
  refine lv_iload_n hx hb dL_law_925 rfl (lv_at hl 0 rfl) ?_
  refine lv_iconst (v := 1) hx hb dL_law_926 (by decide) ?_
  refine lv_iadd hx hb dL_law_927 ?_
  refine lv_topi (fun f_3 ef_3 => ?_)
  obtain rfl : (1 : Int32) = f_3 := (ef_3.trans (by decide)).symm
  refine va_sld hx hb hX hbl hbA hS (vp_in_nI (n := 1) (N := 5) (by decide) (by decide)) dL_law_928 ?_
  have hPc := hP.sub (ws' := [(m0, .inr (12, (fsM gm)))]) [8] rfl
  have hDc := hD.sub (ws' := [(m0, .inr (12, (fsM gm)))]) [8] (by decide) rfl
  have hKc := hK
  refine vp_callSi (va_Run.run (va_runV (As := [.int (xs (1 : Int32).toNatClampNeg)]) (rest := [.int (-2)]) ⟨hx, hb, hml, hown, hts⟩ (c_X12_folder l dC dI cI cB cZ cJ cC cP cV cT cO H.size m0 gm (xs (1 : Int32).toNatClampNeg)) (cwV 1 hts gq_L_law_X12_folder_102 rfl rfl rfl (by decide +kernel) ⟨Nat.le_of_ble_eq_true rfl, Nat.le_of_ble_eq_true rfl⟩) ⟨fun a U g mk q => by obtain ⟨q0, q1, qP, qK, qD⟩ := q; exact ⟨q0, q1, qP, va_K.moved (u := U) (U := U.calling g mk a) (Vm.Alike.refl U.vm) qK, qD⟩, va_recv hKc hPc (ci := 12) (q0 := 0) rfl rfl, fun U hU hW => ⟨rfl, by rw [hU], by rw [hU]; exact hPc, va_K.moved hW.alike hKc, hDc.weaken (fun _ _ _ _ => trivial)⟩⟩ rfl rfl hl.1 rfl (lv_room (Nat.le_of_ble_eq_true rfl)) dL_law_929 ⟨Nat.le_of_ble_eq_true rfl, Nat.le_of_ble_eq_true rfl⟩)) (fun r_4 hr_4 => ?_)
  obtain rfl : r_4 = (-2) := hr_4
  refine lv_icmp_eq (tgt := 1979) hx hb dL_law_932 (by decide) (fun _ => ?_) (fun c_5 => absurd (by decide) c_5)
  exact law_tail l C0 hA hAl rfl hS (Nat.le_of_ble_eq_true rfl) (Nat.le_of_ble_eq_true rfl) x0 m0 ls (lv_sub hl [0, 1, 2, 3] rfl)
set_option maxHeartbeats 40000000 in
set_option maxRecDepth 100000 in
theorem law_case_20 {p : Program} {e : Env} {s : State} {m : MethodId} {below : List Frame} {meth : Method} {c : Code} (l : Launch) {b L : Nat} {xs : Nat → Int32} (C0 : lw_At p s m meth c b L xs) {A : Nat → Prop} (hA : ∀ q : Nat, s.heap.size ≤ q → A q) (hAl : ∀ q : Nat, A q → s.heap.size ≤ q) (hL : L = 5) (dC : Nat → ClassId) (dI : Nat → Nat → Nat) (cI cB cZ cJ cC cP cV cT cO : ClassId) (x0 m0 : Nat) (g tf tq tt gm : Nat → Nat) (hK : va_K (dC, dI) vwCl [(cI, .int), (cB, .byte), (cZ, .boolean), (cJ, .long), (cC, .char), (cP, .object "DiskEvidence$Picture"), (cV, .object "DiskEvidence$Volume"), (cT, .object "DiskEvidence$Tree"), (cO, .object "DiskEvidence$Opening")] s) {H : Heap} {locs : List Loc} (hP : va_P (dC, dI) vwCl [(x0, .inr (11, (fsX g))), ((g 0), .inl (cB, 4000, (.inl (fun _ => 0)))), ((g 3), .inl (cP, 6, (.inr (.inr (.inr (.inr (fun _ => none))))))), ((g 14), .inr (0, (fs0 tf))), ((g 15), .inr (6, (fs6 tq))), ((g 16), .inr (8, (fs8 tt))), ((g 17), .inl (cI, 300, (.inl (fun _ => 0)))), ((g 18), .inl (cJ, 100, (.inr (.inl (fun _ => 0))))), (m0, .inr (12, (fsM gm))), ((gm 1), .inl (cI, 4000, (.inl (fun _ => 0)))), ((gm 4), .inl (cI, 6, (.inl (fun _ => 0)))), ((gm 5), .inl (cI, 49152, (.inl (fun _ => 0)))), ((gm 6), .inl (cZ, 768, (.inl (fun _ => 0)))), ((gm 168), .inl (cI, 100, (.inl (fun _ => 0)))), ((gm 169), .inl (cI, 100, (.inl (fun _ => 0)))), ((gm 170), .inl (cI, 100, (.inl (fun _ => 0)))), ((gm 171), .inl (cJ, 100, (.inr (.inl (fun _ => 0)))))] H) (hD : va_D A [(x0, .inr (11, (fsX g))), ((g 0), .inl (cB, 4000, (.inl (fun _ => 0)))), ((g 3), .inl (cP, 6, (.inr (.inr (.inr (.inr (fun _ => none))))))), ((g 14), .inr (0, (fs0 tf))), ((g 15), .inr (6, (fs6 tq))), ((g 16), .inr (8, (fs8 tt))), ((g 17), .inl (cI, 300, (.inl (fun _ => 0)))), ((g 18), .inl (cJ, 100, (.inr (.inl (fun _ => 0))))), (m0, .inr (12, (fsM gm))), ((gm 1), .inl (cI, 4000, (.inl (fun _ => 0)))), ((gm 4), .inl (cI, 6, (.inl (fun _ => 0)))), ((gm 5), .inl (cI, 49152, (.inl (fun _ => 0)))), ((gm 6), .inl (cZ, 768, (.inl (fun _ => 0)))), ((gm 168), .inl (cI, 100, (.inl (fun _ => 0)))), ((gm 169), .inl (cI, 100, (.inl (fun _ => 0)))), ((gm 170), .inl (cI, 100, (.inl (fun _ => 0)))), ((gm 171), .inl (cJ, 100, (.inr (.inl (fun _ => 0)))))]) (hS : va_S A s.heap H locs) (ls : Array Slot) (hl : lv_has ls 4 [(3, .int 0), (2, .ref m0), (1, .ref x0), (0, .ref b)]) : W p l e room_1 s m #[Value.ref b] below meth c H locs 147 815844 (lw_Z below #[Value.ref b] s) (F0 m 937 ls []) := by
  subst hL
  obtain ⟨hx, hb, hr, hml, hown, hts, hX, hbl, hlocks, hgv⟩ := id C0
  have hown : s.vm.findClass RL = some m.cls := hown
  have hbA : ¬ A b := fun h => absurd (hAl b h) (Nat.not_le.mpr hbl)
  refine lv_aload_n hx hb dL_law_937 rfl (lv_at hl 2 rfl) ?_
  refine lv_aload_n hx hb dL_law_938 rfl (lv_at hl 3 rfl) ?_
  refine lv_iload_n hx hb dL_law_939 rfl (lv_at hl 0 rfl) ?_
  refine lv_iconst (v := 1) hx hb dL_law_940 (by decide) ?_
  refine lv_iadd hx hb dL_law_941 ?_
  refine lv_topi (fun f_1 ef_1 => ?_)
  obtain rfl : (1 : Int32) = f_1 := (ef_1.trans (by decide)).symm
  refine va_sld hx hb hX hbl hbA hS (vp_in_nI (n := 1) (N := 5) (by decide) (by decide)) dL_law_942 ?_
  have hPc := hP.sub (ws' := [(x0, .inr (11, (fsX g)))]) [0] rfl
  have hDc := hD.sub (ws' := [(x0, .inr (11, (fsX g)))]) [0] (by decide) rfl
  have hKc := hK
  refine vp_callSi (va_Run.run (va_runV (As := [.int (xs (1 : Int32).toNatClampNeg)]) (rest := []) ⟨hx, hb, hml, hown, hts⟩ (c_X11_erase l dC dI cI cB cZ cJ cC cP cV cT cO H.size x0 g (xs (1 : Int32).toNatClampNeg)) (cwV 1 hts gq_L_law_X11_erase_103 rfl rfl rfl (by decide +kernel) ⟨Nat.le_of_ble_eq_true rfl, Nat.le_of_ble_eq_true rfl⟩) ⟨fun a U g mk q => by obtain ⟨q0, q1, qP, qK, qD⟩ := q; exact ⟨q0, q1, qP, va_K.moved (u := U) (U := U.calling g mk a) (Vm.Alike.refl U.vm) qK, qD⟩, va_recv hKc hPc (ci := 11) (q0 := 0) rfl rfl, fun U hU hW => ⟨rfl, by rw [hU], by rw [hU]; exact hPc, va_K.moved hW.alike hKc, hDc.weaken (fun _ _ _ _ => trivial)⟩⟩ rfl rfl hl.1 rfl (lv_room (Nat.le_of_ble_eq_true rfl)) dL_law_943 ⟨Nat.le_of_ble_eq_true rfl, Nat.le_of_ble_eq_true rfl⟩)) (fun r_2 hr_2 => ?_)
  obtain rfl : r_2 = (-2) := hr_2
  refine lv_aload_n hx hb dL_law_946 rfl (lv_at hl 1 rfl) ?_
  refine lv_aload_n hx hb dL_law_947 rfl (lv_at hl 3 rfl) ?_
  refine lv_iload_n hx hb dL_law_948 rfl (lv_at hl 0 rfl) ?_
  refine lv_iconst (v := 1) hx hb dL_law_949 (by decide) ?_
  refine lv_iadd hx hb dL_law_950 ?_
  refine lv_topi (fun f_3 ef_3 => ?_)
  obtain rfl : (1 : Int32) = f_3 := (ef_3.trans (by decide)).symm
  refine va_sld hx hb hX hbl hbA hS (vp_in_nI (n := 1) (N := 5) (by decide) (by decide)) dL_law_951 ?_
  have hPc := hP.sub (ws' := [(m0, .inr (12, (fsM gm)))]) [8] rfl
  have hDc := hD.sub (ws' := [(m0, .inr (12, (fsM gm)))]) [8] (by decide) rfl
  have hKc := hK
  refine vp_callSi (va_Run.run (va_runV (As := [.int (xs (1 : Int32).toNatClampNeg)]) (rest := [.int (-2)]) ⟨hx, hb, hml, hown, hts⟩ (c_X12_erase l dC dI cI cB cZ cJ cC cP cV cT cO H.size m0 gm (xs (1 : Int32).toNatClampNeg)) (cwV 1 hts gq_L_law_X12_erase_106 rfl rfl rfl (by decide +kernel) ⟨Nat.le_of_ble_eq_true rfl, Nat.le_of_ble_eq_true rfl⟩) ⟨fun a U g mk q => by obtain ⟨q0, q1, qP, qK, qD⟩ := q; exact ⟨q0, q1, qP, va_K.moved (u := U) (U := U.calling g mk a) (Vm.Alike.refl U.vm) qK, qD⟩, va_recv hKc hPc (ci := 12) (q0 := 0) rfl rfl, fun U hU hW => ⟨rfl, by rw [hU], by rw [hU]; exact hPc, va_K.moved hW.alike hKc, hDc.weaken (fun _ _ _ _ => trivial)⟩⟩ rfl rfl hl.1 rfl (lv_room (Nat.le_of_ble_eq_true rfl)) dL_law_952 ⟨Nat.le_of_ble_eq_true rfl, Nat.le_of_ble_eq_true rfl⟩)) (fun r_4 hr_4 => ?_)
  obtain rfl : r_4 = (-2) := hr_4
  refine lv_icmp_eq (tgt := 1979) hx hb dL_law_955 (by decide) (fun _ => ?_) (fun c_5 => absurd (by decide) c_5)
  exact law_tail l C0 hA hAl rfl hS (Nat.le_of_ble_eq_true rfl) (Nat.le_of_ble_eq_true rfl) x0 m0 ls (lv_sub hl [0, 1, 2, 3] rfl)
set_option maxHeartbeats 40000000 in
set_option maxRecDepth 100000 in
theorem law_case_21 {p : Program} {e : Env} {s : State} {m : MethodId} {below : List Frame} {meth : Method} {c : Code} (l : Launch) {b L : Nat} {xs : Nat → Int32} (C0 : lw_At p s m meth c b L xs) {A : Nat → Prop} (hA : ∀ q : Nat, s.heap.size ≤ q → A q) (hAl : ∀ q : Nat, A q → s.heap.size ≤ q) (hL : L = 5) (dC : Nat → ClassId) (dI : Nat → Nat → Nat) (cI cB cZ cJ cC cP cV cT cO : ClassId) (x0 m0 : Nat) (g tf tq tt gm : Nat → Nat) (hK : va_K (dC, dI) vwCl [(cI, .int), (cB, .byte), (cZ, .boolean), (cJ, .long), (cC, .char), (cP, .object "DiskEvidence$Picture"), (cV, .object "DiskEvidence$Volume"), (cT, .object "DiskEvidence$Tree"), (cO, .object "DiskEvidence$Opening")] s) {H : Heap} {locs : List Loc} (hP : va_P (dC, dI) vwCl [(x0, .inr (11, (fsX g))), ((g 0), .inl (cB, 4000, (.inl (fun _ => 0)))), ((g 3), .inl (cP, 6, (.inr (.inr (.inr (.inr (fun _ => none))))))), ((g 14), .inr (0, (fs0 tf))), ((g 15), .inr (6, (fs6 tq))), ((g 16), .inr (8, (fs8 tt))), ((g 17), .inl (cI, 300, (.inl (fun _ => 0)))), ((g 18), .inl (cJ, 100, (.inr (.inl (fun _ => 0))))), (m0, .inr (12, (fsM gm))), ((gm 1), .inl (cI, 4000, (.inl (fun _ => 0)))), ((gm 4), .inl (cI, 6, (.inl (fun _ => 0)))), ((gm 5), .inl (cI, 49152, (.inl (fun _ => 0)))), ((gm 6), .inl (cZ, 768, (.inl (fun _ => 0)))), ((gm 168), .inl (cI, 100, (.inl (fun _ => 0)))), ((gm 169), .inl (cI, 100, (.inl (fun _ => 0)))), ((gm 170), .inl (cI, 100, (.inl (fun _ => 0)))), ((gm 171), .inl (cJ, 100, (.inr (.inl (fun _ => 0)))))] H) (hD : va_D A [(x0, .inr (11, (fsX g))), ((g 0), .inl (cB, 4000, (.inl (fun _ => 0)))), ((g 3), .inl (cP, 6, (.inr (.inr (.inr (.inr (fun _ => none))))))), ((g 14), .inr (0, (fs0 tf))), ((g 15), .inr (6, (fs6 tq))), ((g 16), .inr (8, (fs8 tt))), ((g 17), .inl (cI, 300, (.inl (fun _ => 0)))), ((g 18), .inl (cJ, 100, (.inr (.inl (fun _ => 0))))), (m0, .inr (12, (fsM gm))), ((gm 1), .inl (cI, 4000, (.inl (fun _ => 0)))), ((gm 4), .inl (cI, 6, (.inl (fun _ => 0)))), ((gm 5), .inl (cI, 49152, (.inl (fun _ => 0)))), ((gm 6), .inl (cZ, 768, (.inl (fun _ => 0)))), ((gm 168), .inl (cI, 100, (.inl (fun _ => 0)))), ((gm 169), .inl (cI, 100, (.inl (fun _ => 0)))), ((gm 170), .inl (cI, 100, (.inl (fun _ => 0)))), ((gm 171), .inl (cJ, 100, (.inr (.inl (fun _ => 0)))))]) (hS : va_S A s.heap H locs) (ls : Array Slot) (hl : lv_has ls 4 [(3, .int 0), (2, .ref m0), (1, .ref x0), (0, .ref b)]) : W p l e room_1 s m #[Value.ref b] below meth c H locs 147 815844 (lw_Z below #[Value.ref b] s) (F0 m 960 ls []) := by
  subst hL
  obtain ⟨hx, hb, hr, hml, hown, hts, hX, hbl, hlocks, hgv⟩ := id C0
  have hown : s.vm.findClass RL = some m.cls := hown
  have hbA : ¬ A b := fun h => absurd (hAl b h) (Nat.not_le.mpr hbl)
  refine lv_aload_n hx hb dL_law_960 rfl (lv_at hl 2 rfl) ?_
  refine lv_aload_n hx hb dL_law_961 rfl (lv_at hl 3 rfl) ?_
  refine lv_iload_n hx hb dL_law_962 rfl (lv_at hl 0 rfl) ?_
  refine lv_iconst (v := 1) hx hb dL_law_963 (by decide) ?_
  refine lv_iadd hx hb dL_law_964 ?_
  refine lv_topi (fun f_1 ef_1 => ?_)
  obtain rfl : (1 : Int32) = f_1 := (ef_1.trans (by decide)).symm
  refine va_sld hx hb hX hbl hbA hS (vp_in_nI (n := 1) (N := 5) (by decide) (by decide)) dL_law_965 ?_
  have hPc := hP.sub (ws' := [(x0, .inr (11, (fsX g)))]) [0] rfl
  have hDc := hD.sub (ws' := [(x0, .inr (11, (fsX g)))]) [0] (by decide) rfl
  have hKc := hK
  refine vp_callSi (va_Run.run (va_runV (As := [.int (xs (1 : Int32).toNatClampNeg)]) (rest := []) ⟨hx, hb, hml, hown, hts⟩ (c_X11_mount l dC dI cI cB cZ cJ cC cP cV cT cO H.size x0 g (xs (1 : Int32).toNatClampNeg)) (cwV 1 hts gq_L_law_X11_mount_107 rfl rfl rfl (by decide +kernel) ⟨Nat.le_of_ble_eq_true rfl, Nat.le_of_ble_eq_true rfl⟩) ⟨fun a U g mk q => by obtain ⟨q0, q1, qP, qK, qD⟩ := q; exact ⟨q0, q1, qP, va_K.moved (u := U) (U := U.calling g mk a) (Vm.Alike.refl U.vm) qK, qD⟩, va_recv hKc hPc (ci := 11) (q0 := 0) rfl rfl, fun U hU hW => ⟨rfl, by rw [hU], by rw [hU]; exact hPc, va_K.moved hW.alike hKc, hDc.weaken (fun _ _ _ _ => trivial)⟩⟩ rfl rfl hl.1 rfl (lv_room (Nat.le_of_ble_eq_true rfl)) dL_law_966 ⟨Nat.le_of_ble_eq_true rfl, Nat.le_of_ble_eq_true rfl⟩)) (fun r_2 hr_2 => ?_)
  obtain rfl : r_2 = (-2) := hr_2
  refine lv_aload_n hx hb dL_law_969 rfl (lv_at hl 1 rfl) ?_
  refine lv_aload_n hx hb dL_law_970 rfl (lv_at hl 3 rfl) ?_
  refine lv_iload_n hx hb dL_law_971 rfl (lv_at hl 0 rfl) ?_
  refine lv_iconst (v := 1) hx hb dL_law_972 (by decide) ?_
  refine lv_iadd hx hb dL_law_973 ?_
  refine lv_topi (fun f_3 ef_3 => ?_)
  obtain rfl : (1 : Int32) = f_3 := (ef_3.trans (by decide)).symm
  refine va_sld hx hb hX hbl hbA hS (vp_in_nI (n := 1) (N := 5) (by decide) (by decide)) dL_law_974 ?_
  have hPc := hP.sub (ws' := [(m0, .inr (12, (fsM gm)))]) [8] rfl
  have hDc := hD.sub (ws' := [(m0, .inr (12, (fsM gm)))]) [8] (by decide) rfl
  have hKc := hK
  refine vp_callSi (va_Run.run (va_runV (As := [.int (xs (1 : Int32).toNatClampNeg)]) (rest := [.int (-2)]) ⟨hx, hb, hml, hown, hts⟩ (c_X12_mount l dC dI cI cB cZ cJ cC cP cV cT cO H.size m0 gm (xs (1 : Int32).toNatClampNeg)) (cwV 1 hts gq_L_law_X12_mount_110 rfl rfl rfl (by decide +kernel) ⟨Nat.le_of_ble_eq_true rfl, Nat.le_of_ble_eq_true rfl⟩) ⟨fun a U g mk q => by obtain ⟨q0, q1, qP, qK, qD⟩ := q; exact ⟨q0, q1, qP, va_K.moved (u := U) (U := U.calling g mk a) (Vm.Alike.refl U.vm) qK, qD⟩, va_recv hKc hPc (ci := 12) (q0 := 0) rfl rfl, fun U hU hW => ⟨rfl, by rw [hU], by rw [hU]; exact hPc, va_K.moved hW.alike hKc, hDc.weaken (fun _ _ _ _ => trivial)⟩⟩ rfl rfl hl.1 rfl (lv_room (Nat.le_of_ble_eq_true rfl)) dL_law_975 ⟨Nat.le_of_ble_eq_true rfl, Nat.le_of_ble_eq_true rfl⟩)) (fun r_4 hr_4 => ?_)
  obtain rfl : r_4 = (-2) := hr_4
  refine lv_icmp_eq (tgt := 1979) hx hb dL_law_978 (by decide) (fun _ => ?_) (fun c_5 => absurd (by decide) c_5)
  exact law_tail l C0 hA hAl rfl hS (Nat.le_of_ble_eq_true rfl) (Nat.le_of_ble_eq_true rfl) x0 m0 ls (lv_sub hl [0, 1, 2, 3] rfl)
set_option maxHeartbeats 40000000 in
set_option maxRecDepth 100000 in
theorem law_case_22 {p : Program} {e : Env} {s : State} {m : MethodId} {below : List Frame} {meth : Method} {c : Code} (l : Launch) {b L : Nat} {xs : Nat → Int32} (C0 : lw_At p s m meth c b L xs) {A : Nat → Prop} (hA : ∀ q : Nat, s.heap.size ≤ q → A q) (hAl : ∀ q : Nat, A q → s.heap.size ≤ q) (hL : L = 5) (dC : Nat → ClassId) (dI : Nat → Nat → Nat) (cI cB cZ cJ cC cP cV cT cO : ClassId) (x0 m0 : Nat) (g tf tq tt gm : Nat → Nat) (hK : va_K (dC, dI) vwCl [(cI, .int), (cB, .byte), (cZ, .boolean), (cJ, .long), (cC, .char), (cP, .object "DiskEvidence$Picture"), (cV, .object "DiskEvidence$Volume"), (cT, .object "DiskEvidence$Tree"), (cO, .object "DiskEvidence$Opening")] s) {H : Heap} {locs : List Loc} (hP : va_P (dC, dI) vwCl [(x0, .inr (11, (fsX g))), ((g 0), .inl (cB, 4000, (.inl (fun _ => 0)))), ((g 3), .inl (cP, 6, (.inr (.inr (.inr (.inr (fun _ => none))))))), ((g 14), .inr (0, (fs0 tf))), ((g 15), .inr (6, (fs6 tq))), ((g 16), .inr (8, (fs8 tt))), ((g 17), .inl (cI, 300, (.inl (fun _ => 0)))), ((g 18), .inl (cJ, 100, (.inr (.inl (fun _ => 0))))), (m0, .inr (12, (fsM gm))), ((gm 1), .inl (cI, 4000, (.inl (fun _ => 0)))), ((gm 4), .inl (cI, 6, (.inl (fun _ => 0)))), ((gm 5), .inl (cI, 49152, (.inl (fun _ => 0)))), ((gm 6), .inl (cZ, 768, (.inl (fun _ => 0)))), ((gm 168), .inl (cI, 100, (.inl (fun _ => 0)))), ((gm 169), .inl (cI, 100, (.inl (fun _ => 0)))), ((gm 170), .inl (cI, 100, (.inl (fun _ => 0)))), ((gm 171), .inl (cJ, 100, (.inr (.inl (fun _ => 0)))))] H) (hD : va_D A [(x0, .inr (11, (fsX g))), ((g 0), .inl (cB, 4000, (.inl (fun _ => 0)))), ((g 3), .inl (cP, 6, (.inr (.inr (.inr (.inr (fun _ => none))))))), ((g 14), .inr (0, (fs0 tf))), ((g 15), .inr (6, (fs6 tq))), ((g 16), .inr (8, (fs8 tt))), ((g 17), .inl (cI, 300, (.inl (fun _ => 0)))), ((g 18), .inl (cJ, 100, (.inr (.inl (fun _ => 0))))), (m0, .inr (12, (fsM gm))), ((gm 1), .inl (cI, 4000, (.inl (fun _ => 0)))), ((gm 4), .inl (cI, 6, (.inl (fun _ => 0)))), ((gm 5), .inl (cI, 49152, (.inl (fun _ => 0)))), ((gm 6), .inl (cZ, 768, (.inl (fun _ => 0)))), ((gm 168), .inl (cI, 100, (.inl (fun _ => 0)))), ((gm 169), .inl (cI, 100, (.inl (fun _ => 0)))), ((gm 170), .inl (cI, 100, (.inl (fun _ => 0)))), ((gm 171), .inl (cJ, 100, (.inr (.inl (fun _ => 0)))))]) (hS : va_S A s.heap H locs) (ls : Array Slot) (hl : lv_has ls 4 [(3, .int 0), (2, .ref m0), (1, .ref x0), (0, .ref b)]) : W p l e room_1 s m #[Value.ref b] below meth c H locs 147 815844 (lw_Z below #[Value.ref b] s) (F0 m 983 ls []) := by
  subst hL
  obtain ⟨hx, hb, hr, hml, hown, hts, hX, hbl, hlocks, hgv⟩ := id C0
  have hown : s.vm.findClass RL = some m.cls := hown
  have hbA : ¬ A b := fun h => absurd (hAl b h) (Nat.not_le.mpr hbl)
  refine lv_aload_n hx hb dL_law_983 rfl (lv_at hl 2 rfl) ?_
  refine lv_aload_n hx hb dL_law_984 rfl (lv_at hl 3 rfl) ?_
  refine lv_iload_n hx hb dL_law_985 rfl (lv_at hl 0 rfl) ?_
  refine lv_iconst (v := 1) hx hb dL_law_986 (by decide) ?_
  refine lv_iadd hx hb dL_law_987 ?_
  refine lv_topi (fun f_1 ef_1 => ?_)
  obtain rfl : (1 : Int32) = f_1 := (ef_1.trans (by decide)).symm
  refine va_sld hx hb hX hbl hbA hS (vp_in_nI (n := 1) (N := 5) (by decide) (by decide)) dL_law_988 ?_
  refine lv_aload_n hx hb dL_law_989 rfl (lv_at hl 3 rfl) ?_
  refine lv_iload_n hx hb dL_law_990 rfl (lv_at hl 0 rfl) ?_
  refine lv_iconst (v := 2) hx hb dL_law_991 (by decide) ?_
  refine lv_iadd hx hb dL_law_992 ?_
  refine lv_topi (fun f_2 ef_2 => ?_)
  obtain rfl : (2 : Int32) = f_2 := (ef_2.trans (by decide)).symm
  refine va_sld hx hb hX hbl hbA hS (vp_in_nI (n := 2) (N := 5) (by decide) (by decide)) dL_law_993 ?_
  have hPc := hP.sub (ws' := [(x0, .inr (11, (fsX g)))]) [0] rfl
  have hDc := hD.sub (ws' := [(x0, .inr (11, (fsX g)))]) [0] (by decide) rfl
  have hKc := hK
  refine vp_callSi (va_Run.run (va_runV (As := [.int (xs (1 : Int32).toNatClampNeg), .int (xs (2 : Int32).toNatClampNeg)]) (rest := []) ⟨hx, hb, hml, hown, hts⟩ (c_X11_tree l dC dI cI cB cZ cJ cC cP cV cT cO H.size x0 g (xs (1 : Int32).toNatClampNeg) (xs (2 : Int32).toNatClampNeg)) (cwV 2 hts gq_L_law_X11_tree_111 rfl rfl rfl (by decide +kernel) ⟨Nat.le_of_ble_eq_true rfl, Nat.le_of_ble_eq_true rfl⟩) ⟨fun a U g mk q => by obtain ⟨q0, q1, qP, qK, qD⟩ := q; exact ⟨q0, q1, qP, va_K.moved (u := U) (U := U.calling g mk a) (Vm.Alike.refl U.vm) qK, qD⟩, va_recv hKc hPc (ci := 11) (q0 := 0) rfl rfl, fun U hU hW => ⟨rfl, by rw [hU], by rw [hU]; exact hPc, va_K.moved hW.alike hKc, hDc.weaken (fun _ _ _ _ => trivial)⟩⟩ rfl rfl hl.1 rfl (lv_room (Nat.le_of_ble_eq_true rfl)) dL_law_994 ⟨Nat.le_of_ble_eq_true rfl, Nat.le_of_ble_eq_true rfl⟩)) (fun r_3 hr_3 => ?_)
  obtain rfl : r_3 = (-2) := hr_3
  refine lv_aload_n hx hb dL_law_997 rfl (lv_at hl 1 rfl) ?_
  refine lv_aload_n hx hb dL_law_998 rfl (lv_at hl 3 rfl) ?_
  refine lv_iload_n hx hb dL_law_999 rfl (lv_at hl 0 rfl) ?_
  refine lv_iconst (v := 1) hx hb dL_law_1000 (by decide) ?_
  refine lv_iadd hx hb dL_law_1001 ?_
  refine lv_topi (fun f_4 ef_4 => ?_)
  obtain rfl : (1 : Int32) = f_4 := (ef_4.trans (by decide)).symm
  refine va_sld hx hb hX hbl hbA hS (vp_in_nI (n := 1) (N := 5) (by decide) (by decide)) dL_law_1002 ?_
  refine lv_aload_n hx hb dL_law_1003 rfl (lv_at hl 3 rfl) ?_
  refine lv_iload_n hx hb dL_law_1004 rfl (lv_at hl 0 rfl) ?_
  refine lv_iconst (v := 2) hx hb dL_law_1005 (by decide) ?_
  refine lv_iadd hx hb dL_law_1006 ?_
  refine lv_topi (fun f_5 ef_5 => ?_)
  obtain rfl : (2 : Int32) = f_5 := (ef_5.trans (by decide)).symm
  refine va_sld hx hb hX hbl hbA hS (vp_in_nI (n := 2) (N := 5) (by decide) (by decide)) dL_law_1007 ?_
  have hPc := hP.sub (ws' := [(m0, .inr (12, (fsM gm)))]) [8] rfl
  have hDc := hD.sub (ws' := [(m0, .inr (12, (fsM gm)))]) [8] (by decide) rfl
  have hKc := hK
  refine vp_callSi (va_Run.run (va_runV (As := [.int (xs (1 : Int32).toNatClampNeg), .int (xs (2 : Int32).toNatClampNeg)]) (rest := [.int (-2)]) ⟨hx, hb, hml, hown, hts⟩ (c_X12_tree l dC dI cI cB cZ cJ cC cP cV cT cO H.size m0 gm (xs (1 : Int32).toNatClampNeg) (xs (2 : Int32).toNatClampNeg)) (cwV 2 hts gq_L_law_X12_tree_114 rfl rfl rfl (by decide +kernel) ⟨Nat.le_of_ble_eq_true rfl, Nat.le_of_ble_eq_true rfl⟩) ⟨fun a U g mk q => by obtain ⟨q0, q1, qP, qK, qD⟩ := q; exact ⟨q0, q1, qP, va_K.moved (u := U) (U := U.calling g mk a) (Vm.Alike.refl U.vm) qK, qD⟩, va_recv hKc hPc (ci := 12) (q0 := 0) rfl rfl, fun U hU hW => ⟨rfl, by rw [hU], by rw [hU]; exact hPc, va_K.moved hW.alike hKc, hDc.weaken (fun _ _ _ _ => trivial)⟩⟩ rfl rfl hl.1 rfl (lv_room (Nat.le_of_ble_eq_true rfl)) dL_law_1008 ⟨Nat.le_of_ble_eq_true rfl, Nat.le_of_ble_eq_true rfl⟩)) (fun r_6 hr_6 => ?_)
  obtain rfl : r_6 = (-2) := hr_6
  refine lv_icmp_eq (tgt := 1979) hx hb dL_law_1011 (by decide) (fun _ => ?_) (fun c_7 => absurd (by decide) c_7)
  exact law_tail l C0 hA hAl rfl hS (Nat.le_of_ble_eq_true rfl) (Nat.le_of_ble_eq_true rfl) x0 m0 ls (lv_sub hl [0, 1, 2, 3] rfl)
set_option maxHeartbeats 40000000 in
set_option maxRecDepth 100000 in
theorem law_case_23 {p : Program} {e : Env} {s : State} {m : MethodId} {below : List Frame} {meth : Method} {c : Code} (l : Launch) {b L : Nat} {xs : Nat → Int32} (C0 : lw_At p s m meth c b L xs) {A : Nat → Prop} (hA : ∀ q : Nat, s.heap.size ≤ q → A q) (hAl : ∀ q : Nat, A q → s.heap.size ≤ q) (hL : L = 5) (dC : Nat → ClassId) (dI : Nat → Nat → Nat) (cI cB cZ cJ cC cP cV cT cO : ClassId) (x0 m0 : Nat) (g tf tq tt gm : Nat → Nat) (hK : va_K (dC, dI) vwCl [(cI, .int), (cB, .byte), (cZ, .boolean), (cJ, .long), (cC, .char), (cP, .object "DiskEvidence$Picture"), (cV, .object "DiskEvidence$Volume"), (cT, .object "DiskEvidence$Tree"), (cO, .object "DiskEvidence$Opening")] s) {H : Heap} {locs : List Loc} (hP : va_P (dC, dI) vwCl [(x0, .inr (11, (fsX g))), ((g 0), .inl (cB, 4000, (.inl (fun _ => 0)))), ((g 3), .inl (cP, 6, (.inr (.inr (.inr (.inr (fun _ => none))))))), ((g 14), .inr (0, (fs0 tf))), ((g 15), .inr (6, (fs6 tq))), ((g 16), .inr (8, (fs8 tt))), ((g 17), .inl (cI, 300, (.inl (fun _ => 0)))), ((g 18), .inl (cJ, 100, (.inr (.inl (fun _ => 0))))), (m0, .inr (12, (fsM gm))), ((gm 1), .inl (cI, 4000, (.inl (fun _ => 0)))), ((gm 4), .inl (cI, 6, (.inl (fun _ => 0)))), ((gm 5), .inl (cI, 49152, (.inl (fun _ => 0)))), ((gm 6), .inl (cZ, 768, (.inl (fun _ => 0)))), ((gm 168), .inl (cI, 100, (.inl (fun _ => 0)))), ((gm 169), .inl (cI, 100, (.inl (fun _ => 0)))), ((gm 170), .inl (cI, 100, (.inl (fun _ => 0)))), ((gm 171), .inl (cJ, 100, (.inr (.inl (fun _ => 0)))))] H) (hD : va_D A [(x0, .inr (11, (fsX g))), ((g 0), .inl (cB, 4000, (.inl (fun _ => 0)))), ((g 3), .inl (cP, 6, (.inr (.inr (.inr (.inr (fun _ => none))))))), ((g 14), .inr (0, (fs0 tf))), ((g 15), .inr (6, (fs6 tq))), ((g 16), .inr (8, (fs8 tt))), ((g 17), .inl (cI, 300, (.inl (fun _ => 0)))), ((g 18), .inl (cJ, 100, (.inr (.inl (fun _ => 0))))), (m0, .inr (12, (fsM gm))), ((gm 1), .inl (cI, 4000, (.inl (fun _ => 0)))), ((gm 4), .inl (cI, 6, (.inl (fun _ => 0)))), ((gm 5), .inl (cI, 49152, (.inl (fun _ => 0)))), ((gm 6), .inl (cZ, 768, (.inl (fun _ => 0)))), ((gm 168), .inl (cI, 100, (.inl (fun _ => 0)))), ((gm 169), .inl (cI, 100, (.inl (fun _ => 0)))), ((gm 170), .inl (cI, 100, (.inl (fun _ => 0)))), ((gm 171), .inl (cJ, 100, (.inr (.inl (fun _ => 0)))))]) (hS : va_S A s.heap H locs) (ls : Array Slot) (hl : lv_has ls 4 [(3, .int 0), (2, .ref m0), (1, .ref x0), (0, .ref b)]) : W p l e room_1 s m #[Value.ref b] below meth c H locs 147 815844 (lw_Z below #[Value.ref b] s) (F0 m 1016 ls []) := by
  subst hL
  obtain ⟨hx, hb, hr, hml, hown, hts, hX, hbl, hlocks, hgv⟩ := id C0
  have hown : s.vm.findClass RL = some m.cls := hown
  have hbA : ¬ A b := fun h => absurd (hAl b h) (Nat.not_le.mpr hbl)
  refine lv_aload_n hx hb dL_law_1016 rfl (lv_at hl 2 rfl) ?_
  refine lv_aload_n hx hb dL_law_1017 rfl (lv_at hl 3 rfl) ?_
  refine lv_iload_n hx hb dL_law_1018 rfl (lv_at hl 0 rfl) ?_
  refine lv_iconst (v := 1) hx hb dL_law_1019 (by decide) ?_
  refine lv_iadd hx hb dL_law_1020 ?_
  refine lv_topi (fun f_1 ef_1 => ?_)
  obtain rfl : (1 : Int32) = f_1 := (ef_1.trans (by decide)).symm
  refine va_sld hx hb hX hbl hbA hS (vp_in_nI (n := 1) (N := 5) (by decide) (by decide)) dL_law_1021 ?_
  refine lv_aload_n hx hb dL_law_1022 rfl (lv_at hl 3 rfl) ?_
  refine lv_iload_n hx hb dL_law_1023 rfl (lv_at hl 0 rfl) ?_
  refine lv_iconst (v := 2) hx hb dL_law_1024 (by decide) ?_
  refine lv_iadd hx hb dL_law_1025 ?_
  refine lv_topi (fun f_2 ef_2 => ?_)
  obtain rfl : (2 : Int32) = f_2 := (ef_2.trans (by decide)).symm
  refine va_sld hx hb hX hbl hbA hS (vp_in_nI (n := 2) (N := 5) (by decide) (by decide)) dL_law_1026 ?_
  refine lv_aload_n hx hb dL_law_1027 rfl (lv_at hl 3 rfl) ?_
  refine lv_iload_n hx hb dL_law_1028 rfl (lv_at hl 0 rfl) ?_
  refine lv_iconst (v := 3) hx hb dL_law_1029 (by decide) ?_
  refine lv_iadd hx hb dL_law_1030 ?_
  refine lv_topi (fun f_3 ef_3 => ?_)
  obtain rfl : (3 : Int32) = f_3 := (ef_3.trans (by decide)).symm
  refine va_sld hx hb hX hbl hbA hS (vp_in_nI (n := 3) (N := 5) (by decide) (by decide)) dL_law_1031 ?_
  have hPc := hP.sub (ws' := [(x0, .inr (11, (fsX g)))]) [0] rfl
  have hDc := hD.sub (ws' := [(x0, .inr (11, (fsX g)))]) [0] (by decide) rfl
  have hKc := hK
  refine vp_callSi (va_Run.run (va_runV (As := [.int (xs (1 : Int32).toNatClampNeg), .int (xs (2 : Int32).toNatClampNeg), .int (xs (3 : Int32).toNatClampNeg)]) (rest := []) ⟨hx, hb, hml, hown, hts⟩ (c_X11_fault l dC dI cI cB cZ cJ cC cP cV cT cO H.size x0 g (xs (1 : Int32).toNatClampNeg) (xs (2 : Int32).toNatClampNeg) (xs (3 : Int32).toNatClampNeg)) (cwV 3 hts gq_L_law_X11_fault_115 rfl rfl rfl (by decide +kernel) ⟨Nat.le_of_ble_eq_true rfl, Nat.le_of_ble_eq_true rfl⟩) ⟨fun a U g mk q => by obtain ⟨q0, q1, qP, qK, qD⟩ := q; exact ⟨q0, q1, qP, va_K.moved (u := U) (U := U.calling g mk a) (Vm.Alike.refl U.vm) qK, qD⟩, va_recv hKc hPc (ci := 11) (q0 := 0) rfl rfl, fun U hU hW => ⟨rfl, by rw [hU], by rw [hU]; exact hPc, va_K.moved hW.alike hKc, hDc.weaken (fun _ _ _ _ => trivial)⟩⟩ rfl rfl hl.1 rfl (lv_room (Nat.le_of_ble_eq_true rfl)) dL_law_1032 ⟨Nat.le_of_ble_eq_true rfl, Nat.le_of_ble_eq_true rfl⟩)) (fun r_4 hr_4 => ?_)
  obtain rfl : r_4 = (-2) := hr_4
  refine lv_aload_n hx hb dL_law_1035 rfl (lv_at hl 1 rfl) ?_
  refine lv_aload_n hx hb dL_law_1036 rfl (lv_at hl 3 rfl) ?_
  refine lv_iload_n hx hb dL_law_1037 rfl (lv_at hl 0 rfl) ?_
  refine lv_iconst (v := 1) hx hb dL_law_1038 (by decide) ?_
  refine lv_iadd hx hb dL_law_1039 ?_
  refine lv_topi (fun f_5 ef_5 => ?_)
  obtain rfl : (1 : Int32) = f_5 := (ef_5.trans (by decide)).symm
  refine va_sld hx hb hX hbl hbA hS (vp_in_nI (n := 1) (N := 5) (by decide) (by decide)) dL_law_1040 ?_
  refine lv_aload_n hx hb dL_law_1041 rfl (lv_at hl 3 rfl) ?_
  refine lv_iload_n hx hb dL_law_1042 rfl (lv_at hl 0 rfl) ?_
  refine lv_iconst (v := 2) hx hb dL_law_1043 (by decide) ?_
  refine lv_iadd hx hb dL_law_1044 ?_
  refine lv_topi (fun f_6 ef_6 => ?_)
  obtain rfl : (2 : Int32) = f_6 := (ef_6.trans (by decide)).symm
  refine va_sld hx hb hX hbl hbA hS (vp_in_nI (n := 2) (N := 5) (by decide) (by decide)) dL_law_1045 ?_
  refine lv_aload_n hx hb dL_law_1046 rfl (lv_at hl 3 rfl) ?_
  refine lv_iload_n hx hb dL_law_1047 rfl (lv_at hl 0 rfl) ?_
  refine lv_iconst (v := 3) hx hb dL_law_1048 (by decide) ?_
  refine lv_iadd hx hb dL_law_1049 ?_
  refine lv_topi (fun f_7 ef_7 => ?_)
  obtain rfl : (3 : Int32) = f_7 := (ef_7.trans (by decide)).symm
  refine va_sld hx hb hX hbl hbA hS (vp_in_nI (n := 3) (N := 5) (by decide) (by decide)) dL_law_1050 ?_
  have hPc := hP.sub (ws' := [(m0, .inr (12, (fsM gm)))]) [8] rfl
  have hDc := hD.sub (ws' := [(m0, .inr (12, (fsM gm)))]) [8] (by decide) rfl
  have hKc := hK
  refine vp_callSi (va_Run.run (va_runV (As := [.int (xs (1 : Int32).toNatClampNeg), .int (xs (2 : Int32).toNatClampNeg), .int (xs (3 : Int32).toNatClampNeg)]) (rest := [.int (-2)]) ⟨hx, hb, hml, hown, hts⟩ (c_X12_fault l dC dI cI cB cZ cJ cC cP cV cT cO H.size m0 gm (xs (1 : Int32).toNatClampNeg) (xs (2 : Int32).toNatClampNeg) (xs (3 : Int32).toNatClampNeg)) (cwV 3 hts gq_L_law_X12_fault_118 rfl rfl rfl (by decide +kernel) ⟨Nat.le_of_ble_eq_true rfl, Nat.le_of_ble_eq_true rfl⟩) ⟨fun a U g mk q => by obtain ⟨q0, q1, qP, qK, qD⟩ := q; exact ⟨q0, q1, qP, va_K.moved (u := U) (U := U.calling g mk a) (Vm.Alike.refl U.vm) qK, qD⟩, va_recv hKc hPc (ci := 12) (q0 := 0) rfl rfl, fun U hU hW => ⟨rfl, by rw [hU], by rw [hU]; exact hPc, va_K.moved hW.alike hKc, hDc.weaken (fun _ _ _ _ => trivial)⟩⟩ rfl rfl hl.1 rfl (lv_room (Nat.le_of_ble_eq_true rfl)) dL_law_1051 ⟨Nat.le_of_ble_eq_true rfl, Nat.le_of_ble_eq_true rfl⟩)) (fun r_8 hr_8 => ?_)
  obtain rfl : r_8 = (-2) := hr_8
  refine lv_icmp_eq (tgt := 1979) hx hb dL_law_1054 (by decide) (fun _ => ?_) (fun c_9 => absurd (by decide) c_9)
  exact law_tail l C0 hA hAl rfl hS (Nat.le_of_ble_eq_true rfl) (Nat.le_of_ble_eq_true rfl) x0 m0 ls (lv_sub hl [0, 1, 2, 3] rfl)
