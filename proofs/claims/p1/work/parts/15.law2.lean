set_option maxHeartbeats 40000000 in
set_option maxRecDepth 100000 in
theorem law_case_24 {p : Program} {e : Env} {s : State} {m : MethodId} {below : List Frame} {meth : Method} {c : Code} (l : Launch) {b L : Nat} {xs : Nat → Int32} (C0 : lw_At p s m meth c b L xs) {A : Nat → Prop} (hA : ∀ q : Nat, s.heap.size ≤ q → A q) (hAl : ∀ q : Nat, A q → s.heap.size ≤ q) (hL : L = 5) (dC : Nat → ClassId) (dI : Nat → Nat → Nat) (cI cB cZ cJ cC cP cV cT cO : ClassId) (x0 m0 : Nat) (g tf tq tt gm : Nat → Nat) (hK : va_K (dC, dI) vwCl [(cI, .int), (cB, .byte), (cZ, .boolean), (cJ, .long), (cC, .char), (cP, .object "DiskEvidence$Picture"), (cV, .object "DiskEvidence$Volume"), (cT, .object "DiskEvidence$Tree"), (cO, .object "DiskEvidence$Opening")] s) {H : Heap} {locs : List Loc} (hP : va_P (dC, dI) vwCl [(x0, .inr (11, (fsX g))), ((g 0), .inl (cB, 4000, (.inl (fun _ => 0)))), ((g 3), .inl (cP, 6, (.inr (.inr (.inr (.inr (fun _ => none))))))), ((g 14), .inr (0, (fs0 tf))), ((g 15), .inr (6, (fs6 tq))), ((g 16), .inr (8, (fs8 tt))), ((g 17), .inl (cI, 300, (.inl (fun _ => 0)))), ((g 18), .inl (cJ, 100, (.inr (.inl (fun _ => 0))))), (m0, .inr (12, (fsM gm))), ((gm 1), .inl (cI, 4000, (.inl (fun _ => 0)))), ((gm 4), .inl (cI, 6, (.inl (fun _ => 0)))), ((gm 5), .inl (cI, 49152, (.inl (fun _ => 0)))), ((gm 6), .inl (cZ, 768, (.inl (fun _ => 0)))), ((gm 168), .inl (cI, 100, (.inl (fun _ => 0)))), ((gm 169), .inl (cI, 100, (.inl (fun _ => 0)))), ((gm 170), .inl (cI, 100, (.inl (fun _ => 0)))), ((gm 171), .inl (cJ, 100, (.inr (.inl (fun _ => 0)))))] H) (hD : va_D A [(x0, .inr (11, (fsX g))), ((g 0), .inl (cB, 4000, (.inl (fun _ => 0)))), ((g 3), .inl (cP, 6, (.inr (.inr (.inr (.inr (fun _ => none))))))), ((g 14), .inr (0, (fs0 tf))), ((g 15), .inr (6, (fs6 tq))), ((g 16), .inr (8, (fs8 tt))), ((g 17), .inl (cI, 300, (.inl (fun _ => 0)))), ((g 18), .inl (cJ, 100, (.inr (.inl (fun _ => 0))))), (m0, .inr (12, (fsM gm))), ((gm 1), .inl (cI, 4000, (.inl (fun _ => 0)))), ((gm 4), .inl (cI, 6, (.inl (fun _ => 0)))), ((gm 5), .inl (cI, 49152, (.inl (fun _ => 0)))), ((gm 6), .inl (cZ, 768, (.inl (fun _ => 0)))), ((gm 168), .inl (cI, 100, (.inl (fun _ => 0)))), ((gm 169), .inl (cI, 100, (.inl (fun _ => 0)))), ((gm 170), .inl (cI, 100, (.inl (fun _ => 0)))), ((gm 171), .inl (cJ, 100, (.inr (.inl (fun _ => 0)))))]) (hS : va_S A s.heap H locs) (ls : Array Slot) (hl : lv_has ls 4 [(3, .int 0), (2, .ref m0), (1, .ref x0), (0, .ref b)]) : W p l e room_1 s m #[Value.ref b] below meth c H locs 147 815844 (lw_Z below #[Value.ref b] s) (F0 m 1059 ls []) := by
  subst hL
  obtain ⟨hx, hb, hr, hml, hown, hts, hX, hbl, hlocks, hgv⟩ := id C0
  have hown : s.vm.findClass RL = some m.cls := hown
  have hbA : ¬ A b := fun h => absurd (hAl b h) (Nat.not_le.mpr hbl)
  refine lv_aload_n hx hb dL_law_1059 rfl (lv_at hl 2 rfl) ?_
  refine lv_aload_n hx hb dL_law_1060 rfl (lv_at hl 3 rfl) ?_
  refine lv_iload_n hx hb dL_law_1061 rfl (lv_at hl 0 rfl) ?_
  refine lv_iconst (v := 1) hx hb dL_law_1062 (by decide) ?_
  refine lv_iadd hx hb dL_law_1063 ?_
  refine lv_topi (fun f_1 ef_1 => ?_)
  obtain rfl : (1 : Int32) = f_1 := (ef_1.trans (by decide)).symm
  refine va_sld hx hb hX hbl hbA hS (vp_in_nI (n := 1) (N := 5) (by decide) (by decide)) dL_law_1064 ?_
  refine lv_aload_n hx hb dL_law_1065 rfl (lv_at hl 3 rfl) ?_
  refine lv_iload_n hx hb dL_law_1066 rfl (lv_at hl 0 rfl) ?_
  refine lv_iconst (v := 2) hx hb dL_law_1067 (by decide) ?_
  refine lv_iadd hx hb dL_law_1068 ?_
  refine lv_topi (fun f_2 ef_2 => ?_)
  obtain rfl : (2 : Int32) = f_2 := (ef_2.trans (by decide)).symm
  refine va_sld hx hb hX hbl hbA hS (vp_in_nI (n := 2) (N := 5) (by decide) (by decide)) dL_law_1069 ?_
  have hPc := hP.sub (ws' := [(x0, .inr (11, (fsX g)))]) [0] rfl
  have hDc := hD.sub (ws' := [(x0, .inr (11, (fsX g)))]) [0] (by decide) rfl
  have hKc := hK
  refine vp_callSi (va_Run.run (va_runV (As := [.int (xs (1 : Int32).toNatClampNeg), .int (xs (2 : Int32).toNatClampNeg)]) (rest := []) ⟨hx, hb, hml, hown, hts⟩ (c_X11_owner l dC dI cI cB cZ cJ cC cP cV cT cO H.size x0 g (xs (1 : Int32).toNatClampNeg) (xs (2 : Int32).toNatClampNeg)) (cwV 2 hts gq_L_law_X11_owner_119 rfl rfl rfl (by decide +kernel) ⟨Nat.le_of_ble_eq_true rfl, Nat.le_of_ble_eq_true rfl⟩) ⟨fun a U g mk q => by obtain ⟨q0, q1, qP, qK, qD⟩ := q; exact ⟨q0, q1, qP, va_K.moved (u := U) (U := U.calling g mk a) (Vm.Alike.refl U.vm) qK, qD⟩, va_recv hKc hPc (ci := 11) (q0 := 0) rfl rfl, fun U hU hW => ⟨rfl, by rw [hU], by rw [hU]; exact hPc, va_K.moved hW.alike hKc, hDc.weaken (fun _ _ _ _ => trivial)⟩⟩ rfl rfl hl.1 rfl (lv_room (Nat.le_of_ble_eq_true rfl)) dL_law_1070 ⟨Nat.le_of_ble_eq_true rfl, Nat.le_of_ble_eq_true rfl⟩)) (fun r_3 hr_3 => ?_)
  obtain rfl : r_3 = (-2) := hr_3
  refine lv_aload_n hx hb dL_law_1073 rfl (lv_at hl 1 rfl) ?_
  refine lv_aload_n hx hb dL_law_1074 rfl (lv_at hl 3 rfl) ?_
  refine lv_iload_n hx hb dL_law_1075 rfl (lv_at hl 0 rfl) ?_
  refine lv_iconst (v := 1) hx hb dL_law_1076 (by decide) ?_
  refine lv_iadd hx hb dL_law_1077 ?_
  refine lv_topi (fun f_4 ef_4 => ?_)
  obtain rfl : (1 : Int32) = f_4 := (ef_4.trans (by decide)).symm
  refine va_sld hx hb hX hbl hbA hS (vp_in_nI (n := 1) (N := 5) (by decide) (by decide)) dL_law_1078 ?_
  refine lv_aload_n hx hb dL_law_1079 rfl (lv_at hl 3 rfl) ?_
  refine lv_iload_n hx hb dL_law_1080 rfl (lv_at hl 0 rfl) ?_
  refine lv_iconst (v := 2) hx hb dL_law_1081 (by decide) ?_
  refine lv_iadd hx hb dL_law_1082 ?_
  refine lv_topi (fun f_5 ef_5 => ?_)
  obtain rfl : (2 : Int32) = f_5 := (ef_5.trans (by decide)).symm
  refine va_sld hx hb hX hbl hbA hS (vp_in_nI (n := 2) (N := 5) (by decide) (by decide)) dL_law_1083 ?_
  have hPc := hP.sub (ws' := [(m0, .inr (12, (fsM gm)))]) [8] rfl
  have hDc := hD.sub (ws' := [(m0, .inr (12, (fsM gm)))]) [8] (by decide) rfl
  have hKc := hK
  refine vp_callSi (va_Run.run (va_runV (As := [.int (xs (1 : Int32).toNatClampNeg), .int (xs (2 : Int32).toNatClampNeg)]) (rest := [.int (-2)]) ⟨hx, hb, hml, hown, hts⟩ (c_X12_owner_ l dC dI cI cB cZ cJ cC cP cV cT cO H.size m0 gm (xs (1 : Int32).toNatClampNeg) (xs (2 : Int32).toNatClampNeg)) (cwV 2 hts gq_L_law_X12_owner__122 rfl rfl rfl (by decide +kernel) ⟨Nat.le_of_ble_eq_true rfl, Nat.le_of_ble_eq_true rfl⟩) ⟨fun a U g mk q => by obtain ⟨q0, q1, qP, qK, qD⟩ := q; exact ⟨q0, q1, qP, va_K.moved (u := U) (U := U.calling g mk a) (Vm.Alike.refl U.vm) qK, qD⟩, va_recv hKc hPc (ci := 12) (q0 := 0) rfl rfl, fun U hU hW => ⟨rfl, by rw [hU], by rw [hU]; exact hPc, va_K.moved hW.alike hKc, hDc.weaken (fun _ _ _ _ => trivial)⟩⟩ rfl rfl hl.1 rfl (lv_room (Nat.le_of_ble_eq_true rfl)) dL_law_1084 ⟨Nat.le_of_ble_eq_true rfl, Nat.le_of_ble_eq_true rfl⟩)) (fun r_6 hr_6 => ?_)
  obtain rfl : r_6 = (-2) := hr_6
  refine lv_icmp_eq (tgt := 1979) hx hb dL_law_1087 (by decide) (fun _ => ?_) (fun c_7 => absurd (by decide) c_7)
  exact law_tail l C0 hA hAl rfl hS (Nat.le_of_ble_eq_true rfl) (Nat.le_of_ble_eq_true rfl) x0 m0 ls (lv_sub hl [0, 1, 2, 3] rfl)
set_option maxHeartbeats 40000000 in
set_option maxRecDepth 100000 in
theorem law_case_25 {p : Program} {e : Env} {s : State} {m : MethodId} {below : List Frame} {meth : Method} {c : Code} (l : Launch) {b L : Nat} {xs : Nat → Int32} (C0 : lw_At p s m meth c b L xs) {A : Nat → Prop} (hA : ∀ q : Nat, s.heap.size ≤ q → A q) (hAl : ∀ q : Nat, A q → s.heap.size ≤ q) (hL : L = 5) (dC : Nat → ClassId) (dI : Nat → Nat → Nat) (cI cB cZ cJ cC cP cV cT cO : ClassId) (x0 m0 : Nat) (g tf tq tt gm : Nat → Nat) (hK : va_K (dC, dI) vwCl [(cI, .int), (cB, .byte), (cZ, .boolean), (cJ, .long), (cC, .char), (cP, .object "DiskEvidence$Picture"), (cV, .object "DiskEvidence$Volume"), (cT, .object "DiskEvidence$Tree"), (cO, .object "DiskEvidence$Opening")] s) {H : Heap} {locs : List Loc} (hP : va_P (dC, dI) vwCl [(x0, .inr (11, (fsX g))), ((g 0), .inl (cB, 4000, (.inl (fun _ => 0)))), ((g 3), .inl (cP, 6, (.inr (.inr (.inr (.inr (fun _ => none))))))), ((g 14), .inr (0, (fs0 tf))), ((g 15), .inr (6, (fs6 tq))), ((g 16), .inr (8, (fs8 tt))), ((g 17), .inl (cI, 300, (.inl (fun _ => 0)))), ((g 18), .inl (cJ, 100, (.inr (.inl (fun _ => 0))))), (m0, .inr (12, (fsM gm))), ((gm 1), .inl (cI, 4000, (.inl (fun _ => 0)))), ((gm 4), .inl (cI, 6, (.inl (fun _ => 0)))), ((gm 5), .inl (cI, 49152, (.inl (fun _ => 0)))), ((gm 6), .inl (cZ, 768, (.inl (fun _ => 0)))), ((gm 168), .inl (cI, 100, (.inl (fun _ => 0)))), ((gm 169), .inl (cI, 100, (.inl (fun _ => 0)))), ((gm 170), .inl (cI, 100, (.inl (fun _ => 0)))), ((gm 171), .inl (cJ, 100, (.inr (.inl (fun _ => 0)))))] H) (hD : va_D A [(x0, .inr (11, (fsX g))), ((g 0), .inl (cB, 4000, (.inl (fun _ => 0)))), ((g 3), .inl (cP, 6, (.inr (.inr (.inr (.inr (fun _ => none))))))), ((g 14), .inr (0, (fs0 tf))), ((g 15), .inr (6, (fs6 tq))), ((g 16), .inr (8, (fs8 tt))), ((g 17), .inl (cI, 300, (.inl (fun _ => 0)))), ((g 18), .inl (cJ, 100, (.inr (.inl (fun _ => 0))))), (m0, .inr (12, (fsM gm))), ((gm 1), .inl (cI, 4000, (.inl (fun _ => 0)))), ((gm 4), .inl (cI, 6, (.inl (fun _ => 0)))), ((gm 5), .inl (cI, 49152, (.inl (fun _ => 0)))), ((gm 6), .inl (cZ, 768, (.inl (fun _ => 0)))), ((gm 168), .inl (cI, 100, (.inl (fun _ => 0)))), ((gm 169), .inl (cI, 100, (.inl (fun _ => 0)))), ((gm 170), .inl (cI, 100, (.inl (fun _ => 0)))), ((gm 171), .inl (cJ, 100, (.inr (.inl (fun _ => 0)))))]) (hS : va_S A s.heap H locs) (ls : Array Slot) (hl : lv_has ls 4 [(3, .int 0), (2, .ref m0), (1, .ref x0), (0, .ref b)]) : W p l e room_1 s m #[Value.ref b] below meth c H locs 147 815844 (lw_Z below #[Value.ref b] s) (F0 m 1092 ls []) := by
  subst hL
  obtain ⟨hx, hb, hr, hml, hown, hts, hX, hbl, hlocks, hgv⟩ := id C0
  have hown : s.vm.findClass RL = some m.cls := hown
  have hbA : ¬ A b := fun h => absurd (hAl b h) (Nat.not_le.mpr hbl)
  refine lv_aload_n hx hb dL_law_1092 rfl (lv_at hl 2 rfl) ?_
  refine lv_aload_n hx hb dL_law_1093 rfl (lv_at hl 3 rfl) ?_
  refine lv_iload_n hx hb dL_law_1094 rfl (lv_at hl 0 rfl) ?_
  refine lv_iconst (v := 1) hx hb dL_law_1095 (by decide) ?_
  refine lv_iadd hx hb dL_law_1096 ?_
  refine lv_topi (fun f_1 ef_1 => ?_)
  obtain rfl : (1 : Int32) = f_1 := (ef_1.trans (by decide)).symm
  refine va_sld hx hb hX hbl hbA hS (vp_in_nI (n := 1) (N := 5) (by decide) (by decide)) dL_law_1097 ?_
  refine lv_aload_n hx hb dL_law_1098 rfl (lv_at hl 3 rfl) ?_
  refine lv_iload_n hx hb dL_law_1099 rfl (lv_at hl 0 rfl) ?_
  refine lv_iconst (v := 2) hx hb dL_law_1100 (by decide) ?_
  refine lv_iadd hx hb dL_law_1101 ?_
  refine lv_topi (fun f_2 ef_2 => ?_)
  obtain rfl : (2 : Int32) = f_2 := (ef_2.trans (by decide)).symm
  refine va_sld hx hb hX hbl hbA hS (vp_in_nI (n := 2) (N := 5) (by decide) (by decide)) dL_law_1102 ?_
  refine lv_aload_n hx hb dL_law_1103 rfl (lv_at hl 3 rfl) ?_
  refine lv_iload_n hx hb dL_law_1104 rfl (lv_at hl 0 rfl) ?_
  refine lv_iconst (v := 3) hx hb dL_law_1105 (by decide) ?_
  refine lv_iadd hx hb dL_law_1106 ?_
  refine lv_topi (fun f_3 ef_3 => ?_)
  obtain rfl : (3 : Int32) = f_3 := (ef_3.trans (by decide)).symm
  refine va_sld hx hb hX hbl hbA hS (vp_in_nI (n := 3) (N := 5) (by decide) (by decide)) dL_law_1107 ?_
  have hPc := hP.sub (ws' := [(x0, .inr (11, (fsX g)))]) [0] rfl
  have hDc := hD.sub (ws' := [(x0, .inr (11, (fsX g)))]) [0] (by decide) rfl
  have hKc := hK
  refine vp_callSi (va_Run.run (va_runV (As := [.int (xs (1 : Int32).toNatClampNeg), .int (xs (2 : Int32).toNatClampNeg), .int (xs (3 : Int32).toNatClampNeg)]) (rest := []) ⟨hx, hb, hml, hown, hts⟩ (c_X11_free l dC dI cI cB cZ cJ cC cP cV cT cO H.size x0 g (xs (1 : Int32).toNatClampNeg) (xs (2 : Int32).toNatClampNeg) (xs (3 : Int32).toNatClampNeg)) (cwV 3 hts gq_L_law_X11_free_123 rfl rfl rfl (by decide +kernel) ⟨Nat.le_of_ble_eq_true rfl, Nat.le_of_ble_eq_true rfl⟩) ⟨fun a U g mk q => by obtain ⟨q0, q1, qP, qK, qD⟩ := q; exact ⟨q0, q1, qP, va_K.moved (u := U) (U := U.calling g mk a) (Vm.Alike.refl U.vm) qK, qD⟩, va_recv hKc hPc (ci := 11) (q0 := 0) rfl rfl, fun U hU hW => ⟨rfl, by rw [hU], by rw [hU]; exact hPc, va_K.moved hW.alike hKc, hDc.weaken (fun _ _ _ _ => trivial)⟩⟩ rfl rfl hl.1 rfl (lv_room (Nat.le_of_ble_eq_true rfl)) dL_law_1108 ⟨Nat.le_of_ble_eq_true rfl, Nat.le_of_ble_eq_true rfl⟩)) (fun r_4 hr_4 => ?_)
  obtain rfl : r_4 = (-2) := hr_4
  refine lv_aload_n hx hb dL_law_1111 rfl (lv_at hl 1 rfl) ?_
  refine lv_aload_n hx hb dL_law_1112 rfl (lv_at hl 3 rfl) ?_
  refine lv_iload_n hx hb dL_law_1113 rfl (lv_at hl 0 rfl) ?_
  refine lv_iconst (v := 1) hx hb dL_law_1114 (by decide) ?_
  refine lv_iadd hx hb dL_law_1115 ?_
  refine lv_topi (fun f_5 ef_5 => ?_)
  obtain rfl : (1 : Int32) = f_5 := (ef_5.trans (by decide)).symm
  refine va_sld hx hb hX hbl hbA hS (vp_in_nI (n := 1) (N := 5) (by decide) (by decide)) dL_law_1116 ?_
  refine lv_aload_n hx hb dL_law_1117 rfl (lv_at hl 3 rfl) ?_
  refine lv_iload_n hx hb dL_law_1118 rfl (lv_at hl 0 rfl) ?_
  refine lv_iconst (v := 2) hx hb dL_law_1119 (by decide) ?_
  refine lv_iadd hx hb dL_law_1120 ?_
  refine lv_topi (fun f_6 ef_6 => ?_)
  obtain rfl : (2 : Int32) = f_6 := (ef_6.trans (by decide)).symm
  refine va_sld hx hb hX hbl hbA hS (vp_in_nI (n := 2) (N := 5) (by decide) (by decide)) dL_law_1121 ?_
  refine lv_aload_n hx hb dL_law_1122 rfl (lv_at hl 3 rfl) ?_
  refine lv_iload_n hx hb dL_law_1123 rfl (lv_at hl 0 rfl) ?_
  refine lv_iconst (v := 3) hx hb dL_law_1124 (by decide) ?_
  refine lv_iadd hx hb dL_law_1125 ?_
  refine lv_topi (fun f_7 ef_7 => ?_)
  obtain rfl : (3 : Int32) = f_7 := (ef_7.trans (by decide)).symm
  refine va_sld hx hb hX hbl hbA hS (vp_in_nI (n := 3) (N := 5) (by decide) (by decide)) dL_law_1126 ?_
  have hPc := hP.sub (ws' := [(m0, .inr (12, (fsM gm)))]) [8] rfl
  have hDc := hD.sub (ws' := [(m0, .inr (12, (fsM gm)))]) [8] (by decide) rfl
  have hKc := hK
  refine vp_callSi (va_Run.run (va_runV (As := [.int (xs (1 : Int32).toNatClampNeg), .int (xs (2 : Int32).toNatClampNeg), .int (xs (3 : Int32).toNatClampNeg)]) (rest := [.int (-2)]) ⟨hx, hb, hml, hown, hts⟩ (c_X12_free l dC dI cI cB cZ cJ cC cP cV cT cO H.size m0 gm (xs (1 : Int32).toNatClampNeg) (xs (2 : Int32).toNatClampNeg) (xs (3 : Int32).toNatClampNeg)) (cwV 3 hts gq_L_law_X12_free_126 rfl rfl rfl (by decide +kernel) ⟨Nat.le_of_ble_eq_true rfl, Nat.le_of_ble_eq_true rfl⟩) ⟨fun a U g mk q => by obtain ⟨q0, q1, qP, qK, qD⟩ := q; exact ⟨q0, q1, qP, va_K.moved (u := U) (U := U.calling g mk a) (Vm.Alike.refl U.vm) qK, qD⟩, va_recv hKc hPc (ci := 12) (q0 := 0) rfl rfl, fun U hU hW => ⟨rfl, by rw [hU], by rw [hU]; exact hPc, va_K.moved hW.alike hKc, hDc.weaken (fun _ _ _ _ => trivial)⟩⟩ rfl rfl hl.1 rfl (lv_room (Nat.le_of_ble_eq_true rfl)) dL_law_1127 ⟨Nat.le_of_ble_eq_true rfl, Nat.le_of_ble_eq_true rfl⟩)) (fun r_8 hr_8 => ?_)
  obtain rfl : r_8 = (-2) := hr_8
  refine lv_icmp_eq (tgt := 1979) hx hb dL_law_1130 (by decide) (fun _ => ?_) (fun c_9 => absurd (by decide) c_9)
  exact law_tail l C0 hA hAl rfl hS (Nat.le_of_ble_eq_true rfl) (Nat.le_of_ble_eq_true rfl) x0 m0 ls (lv_sub hl [0, 1, 2, 3] rfl)
set_option maxHeartbeats 40000000 in
set_option maxRecDepth 100000 in
theorem law_case_26 {p : Program} {e : Env} {s : State} {m : MethodId} {below : List Frame} {meth : Method} {c : Code} (l : Launch) {b L : Nat} {xs : Nat → Int32} (C0 : lw_At p s m meth c b L xs) {A : Nat → Prop} (hA : ∀ q : Nat, s.heap.size ≤ q → A q) (hAl : ∀ q : Nat, A q → s.heap.size ≤ q) (hL : L = 5) (dC : Nat → ClassId) (dI : Nat → Nat → Nat) (cI cB cZ cJ cC cP cV cT cO : ClassId) (x0 m0 : Nat) (g tf tq tt gm : Nat → Nat) (hK : va_K (dC, dI) vwCl [(cI, .int), (cB, .byte), (cZ, .boolean), (cJ, .long), (cC, .char), (cP, .object "DiskEvidence$Picture"), (cV, .object "DiskEvidence$Volume"), (cT, .object "DiskEvidence$Tree"), (cO, .object "DiskEvidence$Opening")] s) {H : Heap} {locs : List Loc} (hP : va_P (dC, dI) vwCl [(x0, .inr (11, (fsX g))), ((g 0), .inl (cB, 4000, (.inl (fun _ => 0)))), ((g 3), .inl (cP, 6, (.inr (.inr (.inr (.inr (fun _ => none))))))), ((g 14), .inr (0, (fs0 tf))), ((g 15), .inr (6, (fs6 tq))), ((g 16), .inr (8, (fs8 tt))), ((g 17), .inl (cI, 300, (.inl (fun _ => 0)))), ((g 18), .inl (cJ, 100, (.inr (.inl (fun _ => 0))))), (m0, .inr (12, (fsM gm))), ((gm 1), .inl (cI, 4000, (.inl (fun _ => 0)))), ((gm 4), .inl (cI, 6, (.inl (fun _ => 0)))), ((gm 5), .inl (cI, 49152, (.inl (fun _ => 0)))), ((gm 6), .inl (cZ, 768, (.inl (fun _ => 0)))), ((gm 168), .inl (cI, 100, (.inl (fun _ => 0)))), ((gm 169), .inl (cI, 100, (.inl (fun _ => 0)))), ((gm 170), .inl (cI, 100, (.inl (fun _ => 0)))), ((gm 171), .inl (cJ, 100, (.inr (.inl (fun _ => 0)))))] H) (hD : va_D A [(x0, .inr (11, (fsX g))), ((g 0), .inl (cB, 4000, (.inl (fun _ => 0)))), ((g 3), .inl (cP, 6, (.inr (.inr (.inr (.inr (fun _ => none))))))), ((g 14), .inr (0, (fs0 tf))), ((g 15), .inr (6, (fs6 tq))), ((g 16), .inr (8, (fs8 tt))), ((g 17), .inl (cI, 300, (.inl (fun _ => 0)))), ((g 18), .inl (cJ, 100, (.inr (.inl (fun _ => 0))))), (m0, .inr (12, (fsM gm))), ((gm 1), .inl (cI, 4000, (.inl (fun _ => 0)))), ((gm 4), .inl (cI, 6, (.inl (fun _ => 0)))), ((gm 5), .inl (cI, 49152, (.inl (fun _ => 0)))), ((gm 6), .inl (cZ, 768, (.inl (fun _ => 0)))), ((gm 168), .inl (cI, 100, (.inl (fun _ => 0)))), ((gm 169), .inl (cI, 100, (.inl (fun _ => 0)))), ((gm 170), .inl (cI, 100, (.inl (fun _ => 0)))), ((gm 171), .inl (cJ, 100, (.inr (.inl (fun _ => 0)))))]) (hS : va_S A s.heap H locs) (ls : Array Slot) (hl : lv_has ls 4 [(3, .int 0), (2, .ref m0), (1, .ref x0), (0, .ref b)]) : W p l e room_1 s m #[Value.ref b] below meth c H locs 147 815844 (lw_Z below #[Value.ref b] s) (F0 m 1135 ls []) := by
  subst hL
  obtain ⟨hx, hb, hr, hml, hown, hts, hX, hbl, hlocks, hgv⟩ := id C0
  have hown : s.vm.findClass RL = some m.cls := hown
  have hbA : ¬ A b := fun h => absurd (hAl b h) (Nat.not_le.mpr hbl)
  refine lv_aload_n hx hb dL_law_1135 rfl (lv_at hl 2 rfl) ?_
  refine lv_aload_n hx hb dL_law_1136 rfl (lv_at hl 3 rfl) ?_
  refine lv_iload_n hx hb dL_law_1137 rfl (lv_at hl 0 rfl) ?_
  refine lv_iconst (v := 1) hx hb dL_law_1138 (by decide) ?_
  refine lv_iadd hx hb dL_law_1139 ?_
  refine lv_topi (fun f_1 ef_1 => ?_)
  obtain rfl : (1 : Int32) = f_1 := (ef_1.trans (by decide)).symm
  refine va_sld hx hb hX hbl hbA hS (vp_in_nI (n := 1) (N := 5) (by decide) (by decide)) dL_law_1140 ?_
  have hPc := hP.sub (ws' := [(x0, .inr (11, (fsX g)))]) [0] rfl
  have hDc := hD.sub (ws' := [(x0, .inr (11, (fsX g)))]) [0] (by decide) rfl
  have hKc := hK
  refine vp_callSi (va_Run.run (va_runV (As := [.int (xs (1 : Int32).toNatClampNeg)]) (rest := []) ⟨hx, hb, hml, hown, hts⟩ (c_X11_find l dC dI cI cB cZ cJ cC cP cV cT cO H.size x0 g (xs (1 : Int32).toNatClampNeg)) (cwV 1 hts gq_L_law_X11_find_127 rfl rfl rfl (by decide +kernel) ⟨Nat.le_of_ble_eq_true rfl, Nat.le_of_ble_eq_true rfl⟩) ⟨fun a U g mk q => by obtain ⟨q0, q1, qP, qK, qD⟩ := q; exact ⟨q0, q1, qP, va_K.moved (u := U) (U := U.calling g mk a) (Vm.Alike.refl U.vm) qK, qD⟩, va_recv hKc hPc (ci := 11) (q0 := 0) rfl rfl, fun U hU hW => ⟨rfl, by rw [hU], by rw [hU]; exact hPc, va_K.moved hW.alike hKc, hDc.weaken (fun _ _ _ _ => trivial)⟩⟩ rfl rfl hl.1 rfl (lv_room (Nat.le_of_ble_eq_true rfl)) dL_law_1141 ⟨Nat.le_of_ble_eq_true rfl, Nat.le_of_ble_eq_true rfl⟩)) (fun r_2 hr_2 => ?_)
  obtain rfl : r_2 = (-2) := hr_2
  refine lv_aload_n hx hb dL_law_1144 rfl (lv_at hl 1 rfl) ?_
  refine lv_aload_n hx hb dL_law_1145 rfl (lv_at hl 3 rfl) ?_
  refine lv_iload_n hx hb dL_law_1146 rfl (lv_at hl 0 rfl) ?_
  refine lv_iconst (v := 1) hx hb dL_law_1147 (by decide) ?_
  refine lv_iadd hx hb dL_law_1148 ?_
  refine lv_topi (fun f_3 ef_3 => ?_)
  obtain rfl : (1 : Int32) = f_3 := (ef_3.trans (by decide)).symm
  refine va_sld hx hb hX hbl hbA hS (vp_in_nI (n := 1) (N := 5) (by decide) (by decide)) dL_law_1149 ?_
  have hPc := hP.sub (ws' := [(m0, .inr (12, (fsM gm)))]) [8] rfl
  have hDc := hD.sub (ws' := [(m0, .inr (12, (fsM gm)))]) [8] (by decide) rfl
  have hKc := hK
  refine vp_callSi (va_Run.run (va_runV (As := [.int (xs (1 : Int32).toNatClampNeg)]) (rest := [.int (-2)]) ⟨hx, hb, hml, hown, hts⟩ (c_X12_find l dC dI cI cB cZ cJ cC cP cV cT cO H.size m0 gm (xs (1 : Int32).toNatClampNeg)) (cwV 1 hts gq_L_law_X12_find_130 rfl rfl rfl (by decide +kernel) ⟨Nat.le_of_ble_eq_true rfl, Nat.le_of_ble_eq_true rfl⟩) ⟨fun a U g mk q => by obtain ⟨q0, q1, qP, qK, qD⟩ := q; exact ⟨q0, q1, qP, va_K.moved (u := U) (U := U.calling g mk a) (Vm.Alike.refl U.vm) qK, qD⟩, va_recv hKc hPc (ci := 12) (q0 := 0) rfl rfl, fun U hU hW => ⟨rfl, by rw [hU], by rw [hU]; exact hPc, va_K.moved hW.alike hKc, hDc.weaken (fun _ _ _ _ => trivial)⟩⟩ rfl rfl hl.1 rfl (lv_room (Nat.le_of_ble_eq_true rfl)) dL_law_1150 ⟨Nat.le_of_ble_eq_true rfl, Nat.le_of_ble_eq_true rfl⟩)) (fun r_4 hr_4 => ?_)
  obtain rfl : r_4 = (-2) := hr_4
  refine lv_icmp_eq (tgt := 1979) hx hb dL_law_1153 (by decide) (fun _ => ?_) (fun c_5 => absurd (by decide) c_5)
  exact law_tail l C0 hA hAl rfl hS (Nat.le_of_ble_eq_true rfl) (Nat.le_of_ble_eq_true rfl) x0 m0 ls (lv_sub hl [0, 1, 2, 3] rfl)
set_option maxHeartbeats 40000000 in
set_option maxRecDepth 100000 in
theorem law_case_27 {p : Program} {e : Env} {s : State} {m : MethodId} {below : List Frame} {meth : Method} {c : Code} (l : Launch) {b L : Nat} {xs : Nat → Int32} (C0 : lw_At p s m meth c b L xs) {A : Nat → Prop} (hA : ∀ q : Nat, s.heap.size ≤ q → A q) (hAl : ∀ q : Nat, A q → s.heap.size ≤ q) (hL : L = 5) (dC : Nat → ClassId) (dI : Nat → Nat → Nat) (cI cB cZ cJ cC cP cV cT cO : ClassId) (x0 m0 : Nat) (g tf tq tt gm : Nat → Nat) (hK : va_K (dC, dI) vwCl [(cI, .int), (cB, .byte), (cZ, .boolean), (cJ, .long), (cC, .char), (cP, .object "DiskEvidence$Picture"), (cV, .object "DiskEvidence$Volume"), (cT, .object "DiskEvidence$Tree"), (cO, .object "DiskEvidence$Opening")] s) {H : Heap} {locs : List Loc} (hP : va_P (dC, dI) vwCl [(x0, .inr (11, (fsX g))), ((g 0), .inl (cB, 4000, (.inl (fun _ => 0)))), ((g 3), .inl (cP, 6, (.inr (.inr (.inr (.inr (fun _ => none))))))), ((g 14), .inr (0, (fs0 tf))), ((g 15), .inr (6, (fs6 tq))), ((g 16), .inr (8, (fs8 tt))), ((g 17), .inl (cI, 300, (.inl (fun _ => 0)))), ((g 18), .inl (cJ, 100, (.inr (.inl (fun _ => 0))))), (m0, .inr (12, (fsM gm))), ((gm 1), .inl (cI, 4000, (.inl (fun _ => 0)))), ((gm 4), .inl (cI, 6, (.inl (fun _ => 0)))), ((gm 5), .inl (cI, 49152, (.inl (fun _ => 0)))), ((gm 6), .inl (cZ, 768, (.inl (fun _ => 0)))), ((gm 168), .inl (cI, 100, (.inl (fun _ => 0)))), ((gm 169), .inl (cI, 100, (.inl (fun _ => 0)))), ((gm 170), .inl (cI, 100, (.inl (fun _ => 0)))), ((gm 171), .inl (cJ, 100, (.inr (.inl (fun _ => 0)))))] H) (hD : va_D A [(x0, .inr (11, (fsX g))), ((g 0), .inl (cB, 4000, (.inl (fun _ => 0)))), ((g 3), .inl (cP, 6, (.inr (.inr (.inr (.inr (fun _ => none))))))), ((g 14), .inr (0, (fs0 tf))), ((g 15), .inr (6, (fs6 tq))), ((g 16), .inr (8, (fs8 tt))), ((g 17), .inl (cI, 300, (.inl (fun _ => 0)))), ((g 18), .inl (cJ, 100, (.inr (.inl (fun _ => 0))))), (m0, .inr (12, (fsM gm))), ((gm 1), .inl (cI, 4000, (.inl (fun _ => 0)))), ((gm 4), .inl (cI, 6, (.inl (fun _ => 0)))), ((gm 5), .inl (cI, 49152, (.inl (fun _ => 0)))), ((gm 6), .inl (cZ, 768, (.inl (fun _ => 0)))), ((gm 168), .inl (cI, 100, (.inl (fun _ => 0)))), ((gm 169), .inl (cI, 100, (.inl (fun _ => 0)))), ((gm 170), .inl (cI, 100, (.inl (fun _ => 0)))), ((gm 171), .inl (cJ, 100, (.inr (.inl (fun _ => 0)))))]) (hS : va_S A s.heap H locs) (ls : Array Slot) (hl : lv_has ls 4 [(3, .int 0), (2, .ref m0), (1, .ref x0), (0, .ref b)]) : W p l e room_1 s m #[Value.ref b] below meth c H locs 147 815844 (lw_Z below #[Value.ref b] s) (F0 m 1158 ls []) := by
  subst hL
  obtain ⟨hx, hb, hr, hml, hown, hts, hX, hbl, hlocks, hgv⟩ := id C0
  have hown : s.vm.findClass RL = some m.cls := hown
  have hbA : ¬ A b := fun h => absurd (hAl b h) (Nat.not_le.mpr hbl)
  refine lv_aload_n hx hb dL_law_1158 rfl (lv_at hl 2 rfl) ?_
  refine lv_aload_n hx hb dL_law_1159 rfl (lv_at hl 3 rfl) ?_
  refine lv_iload_n hx hb dL_law_1160 rfl (lv_at hl 0 rfl) ?_
  refine lv_iconst (v := 1) hx hb dL_law_1161 (by decide) ?_
  refine lv_iadd hx hb dL_law_1162 ?_
  refine lv_topi (fun f_1 ef_1 => ?_)
  obtain rfl : (1 : Int32) = f_1 := (ef_1.trans (by decide)).symm
  refine va_sld hx hb hX hbl hbA hS (vp_in_nI (n := 1) (N := 5) (by decide) (by decide)) dL_law_1163 ?_
  refine lv_aload_n hx hb dL_law_1164 rfl (lv_at hl 3 rfl) ?_
  refine lv_iload_n hx hb dL_law_1165 rfl (lv_at hl 0 rfl) ?_
  refine lv_iconst (v := 2) hx hb dL_law_1166 (by decide) ?_
  refine lv_iadd hx hb dL_law_1167 ?_
  refine lv_topi (fun f_2 ef_2 => ?_)
  obtain rfl : (2 : Int32) = f_2 := (ef_2.trans (by decide)).symm
  refine va_sld hx hb hX hbl hbA hS (vp_in_nI (n := 2) (N := 5) (by decide) (by decide)) dL_law_1168 ?_
  refine lv_aload_n hx hb dL_law_1169 rfl (lv_at hl 3 rfl) ?_
  refine lv_iload_n hx hb dL_law_1170 rfl (lv_at hl 0 rfl) ?_
  refine lv_iconst (v := 3) hx hb dL_law_1171 (by decide) ?_
  refine lv_iadd hx hb dL_law_1172 ?_
  refine lv_topi (fun f_3 ef_3 => ?_)
  obtain rfl : (3 : Int32) = f_3 := (ef_3.trans (by decide)).symm
  refine va_sld hx hb hX hbl hbA hS (vp_in_nI (n := 3) (N := 5) (by decide) (by decide)) dL_law_1173 ?_
  have hPc := hP.sub (ws' := [(x0, .inr (11, (fsX g)))]) [0] rfl
  have hDc := hD.sub (ws' := [(x0, .inr (11, (fsX g)))]) [0] (by decide) rfl
  have hKc := hK
  refine vp_callSi (va_Run.run (va_runV (As := [.int (xs (1 : Int32).toNatClampNeg), .int (xs (2 : Int32).toNatClampNeg), .int (xs (3 : Int32).toNatClampNeg)]) (rest := []) ⟨hx, hb, hml, hown, hts⟩ (c_X11_name l dC dI cI cB cZ cJ cC cP cV cT cO H.size x0 g (xs (1 : Int32).toNatClampNeg) (xs (2 : Int32).toNatClampNeg) (xs (3 : Int32).toNatClampNeg)) (cwV 3 hts gq_L_law_X11_name_131 rfl rfl rfl (by decide +kernel) ⟨Nat.le_of_ble_eq_true rfl, Nat.le_of_ble_eq_true rfl⟩) ⟨fun a U g mk q => by obtain ⟨q0, q1, qP, qK, qD⟩ := q; exact ⟨q0, q1, qP, va_K.moved (u := U) (U := U.calling g mk a) (Vm.Alike.refl U.vm) qK, qD⟩, va_recv hKc hPc (ci := 11) (q0 := 0) rfl rfl, fun U hU hW => ⟨rfl, by rw [hU], by rw [hU]; exact hPc, va_K.moved hW.alike hKc, hDc.weaken (fun _ _ _ _ => trivial)⟩⟩ rfl rfl hl.1 rfl (lv_room (Nat.le_of_ble_eq_true rfl)) dL_law_1174 ⟨Nat.le_of_ble_eq_true rfl, Nat.le_of_ble_eq_true rfl⟩)) (fun r_4 hr_4 => ?_)
  obtain rfl : r_4 = (-2) := hr_4
  refine lv_aload_n hx hb dL_law_1177 rfl (lv_at hl 1 rfl) ?_
  refine lv_aload_n hx hb dL_law_1178 rfl (lv_at hl 3 rfl) ?_
  refine lv_iload_n hx hb dL_law_1179 rfl (lv_at hl 0 rfl) ?_
  refine lv_iconst (v := 1) hx hb dL_law_1180 (by decide) ?_
  refine lv_iadd hx hb dL_law_1181 ?_
  refine lv_topi (fun f_5 ef_5 => ?_)
  obtain rfl : (1 : Int32) = f_5 := (ef_5.trans (by decide)).symm
  refine va_sld hx hb hX hbl hbA hS (vp_in_nI (n := 1) (N := 5) (by decide) (by decide)) dL_law_1182 ?_
  refine lv_aload_n hx hb dL_law_1183 rfl (lv_at hl 3 rfl) ?_
  refine lv_iload_n hx hb dL_law_1184 rfl (lv_at hl 0 rfl) ?_
  refine lv_iconst (v := 2) hx hb dL_law_1185 (by decide) ?_
  refine lv_iadd hx hb dL_law_1186 ?_
  refine lv_topi (fun f_6 ef_6 => ?_)
  obtain rfl : (2 : Int32) = f_6 := (ef_6.trans (by decide)).symm
  refine va_sld hx hb hX hbl hbA hS (vp_in_nI (n := 2) (N := 5) (by decide) (by decide)) dL_law_1187 ?_
  refine lv_aload_n hx hb dL_law_1188 rfl (lv_at hl 3 rfl) ?_
  refine lv_iload_n hx hb dL_law_1189 rfl (lv_at hl 0 rfl) ?_
  refine lv_iconst (v := 3) hx hb dL_law_1190 (by decide) ?_
  refine lv_iadd hx hb dL_law_1191 ?_
  refine lv_topi (fun f_7 ef_7 => ?_)
  obtain rfl : (3 : Int32) = f_7 := (ef_7.trans (by decide)).symm
  refine va_sld hx hb hX hbl hbA hS (vp_in_nI (n := 3) (N := 5) (by decide) (by decide)) dL_law_1192 ?_
  have hPc := hP.sub (ws' := [(m0, .inr (12, (fsM gm)))]) [8] rfl
  have hDc := hD.sub (ws' := [(m0, .inr (12, (fsM gm)))]) [8] (by decide) rfl
  have hKc := hK
  refine vp_callSi (va_Run.run (va_runV (As := [.int (xs (1 : Int32).toNatClampNeg), .int (xs (2 : Int32).toNatClampNeg), .int (xs (3 : Int32).toNatClampNeg)]) (rest := [.int (-2)]) ⟨hx, hb, hml, hown, hts⟩ (c_X12_name l dC dI cI cB cZ cJ cC cP cV cT cO H.size m0 gm (xs (1 : Int32).toNatClampNeg) (xs (2 : Int32).toNatClampNeg) (xs (3 : Int32).toNatClampNeg)) (cwV 3 hts gq_L_law_X12_name_134 rfl rfl rfl (by decide +kernel) ⟨Nat.le_of_ble_eq_true rfl, Nat.le_of_ble_eq_true rfl⟩) ⟨fun a U g mk q => by obtain ⟨q0, q1, qP, qK, qD⟩ := q; exact ⟨q0, q1, qP, va_K.moved (u := U) (U := U.calling g mk a) (Vm.Alike.refl U.vm) qK, qD⟩, va_recv hKc hPc (ci := 12) (q0 := 0) rfl rfl, fun U hU hW => ⟨rfl, by rw [hU], by rw [hU]; exact hPc, va_K.moved hW.alike hKc, hDc.weaken (fun _ _ _ _ => trivial)⟩⟩ rfl rfl hl.1 rfl (lv_room (Nat.le_of_ble_eq_true rfl)) dL_law_1193 ⟨Nat.le_of_ble_eq_true rfl, Nat.le_of_ble_eq_true rfl⟩)) (fun r_8 hr_8 => ?_)
  obtain rfl : r_8 = (-2) := hr_8
  refine lv_icmp_eq (tgt := 1979) hx hb dL_law_1196 (by decide) (fun _ => ?_) (fun c_9 => absurd (by decide) c_9)
  exact law_tail l C0 hA hAl rfl hS (Nat.le_of_ble_eq_true rfl) (Nat.le_of_ble_eq_true rfl) x0 m0 ls (lv_sub hl [0, 1, 2, 3] rfl)
set_option maxHeartbeats 40000000 in
set_option maxRecDepth 100000 in
theorem law_case_28 {p : Program} {e : Env} {s : State} {m : MethodId} {below : List Frame} {meth : Method} {c : Code} (l : Launch) {b L : Nat} {xs : Nat → Int32} (C0 : lw_At p s m meth c b L xs) {A : Nat → Prop} (hA : ∀ q : Nat, s.heap.size ≤ q → A q) (hAl : ∀ q : Nat, A q → s.heap.size ≤ q) (hL : L = 5) (dC : Nat → ClassId) (dI : Nat → Nat → Nat) (cI cB cZ cJ cC cP cV cT cO : ClassId) (x0 m0 : Nat) (g tf tq tt gm : Nat → Nat) (hK : va_K (dC, dI) vwCl [(cI, .int), (cB, .byte), (cZ, .boolean), (cJ, .long), (cC, .char), (cP, .object "DiskEvidence$Picture"), (cV, .object "DiskEvidence$Volume"), (cT, .object "DiskEvidence$Tree"), (cO, .object "DiskEvidence$Opening")] s) {H : Heap} {locs : List Loc} (hP : va_P (dC, dI) vwCl [(x0, .inr (11, (fsX g))), ((g 0), .inl (cB, 4000, (.inl (fun _ => 0)))), ((g 3), .inl (cP, 6, (.inr (.inr (.inr (.inr (fun _ => none))))))), ((g 14), .inr (0, (fs0 tf))), ((g 15), .inr (6, (fs6 tq))), ((g 16), .inr (8, (fs8 tt))), ((g 17), .inl (cI, 300, (.inl (fun _ => 0)))), ((g 18), .inl (cJ, 100, (.inr (.inl (fun _ => 0))))), (m0, .inr (12, (fsM gm))), ((gm 1), .inl (cI, 4000, (.inl (fun _ => 0)))), ((gm 4), .inl (cI, 6, (.inl (fun _ => 0)))), ((gm 5), .inl (cI, 49152, (.inl (fun _ => 0)))), ((gm 6), .inl (cZ, 768, (.inl (fun _ => 0)))), ((gm 168), .inl (cI, 100, (.inl (fun _ => 0)))), ((gm 169), .inl (cI, 100, (.inl (fun _ => 0)))), ((gm 170), .inl (cI, 100, (.inl (fun _ => 0)))), ((gm 171), .inl (cJ, 100, (.inr (.inl (fun _ => 0)))))] H) (hD : va_D A [(x0, .inr (11, (fsX g))), ((g 0), .inl (cB, 4000, (.inl (fun _ => 0)))), ((g 3), .inl (cP, 6, (.inr (.inr (.inr (.inr (fun _ => none))))))), ((g 14), .inr (0, (fs0 tf))), ((g 15), .inr (6, (fs6 tq))), ((g 16), .inr (8, (fs8 tt))), ((g 17), .inl (cI, 300, (.inl (fun _ => 0)))), ((g 18), .inl (cJ, 100, (.inr (.inl (fun _ => 0))))), (m0, .inr (12, (fsM gm))), ((gm 1), .inl (cI, 4000, (.inl (fun _ => 0)))), ((gm 4), .inl (cI, 6, (.inl (fun _ => 0)))), ((gm 5), .inl (cI, 49152, (.inl (fun _ => 0)))), ((gm 6), .inl (cZ, 768, (.inl (fun _ => 0)))), ((gm 168), .inl (cI, 100, (.inl (fun _ => 0)))), ((gm 169), .inl (cI, 100, (.inl (fun _ => 0)))), ((gm 170), .inl (cI, 100, (.inl (fun _ => 0)))), ((gm 171), .inl (cJ, 100, (.inr (.inl (fun _ => 0)))))]) (hS : va_S A s.heap H locs) (ls : Array Slot) (hl : lv_has ls 4 [(3, .int 0), (2, .ref m0), (1, .ref x0), (0, .ref b)]) : W p l e room_1 s m #[Value.ref b] below meth c H locs 147 815844 (lw_Z below #[Value.ref b] s) (F0 m 1201 ls []) := by
  subst hL
  obtain ⟨hx, hb, hr, hml, hown, hts, hX, hbl, hlocks, hgv⟩ := id C0
  have hown : s.vm.findClass RL = some m.cls := hown
  have hbA : ¬ A b := fun h => absurd (hAl b h) (Nat.not_le.mpr hbl)
  refine lv_aload_n hx hb dL_law_1201 rfl (lv_at hl 2 rfl) ?_
  refine lv_aload_n hx hb dL_law_1202 rfl (lv_at hl 3 rfl) ?_
  refine lv_iload_n hx hb dL_law_1203 rfl (lv_at hl 0 rfl) ?_
  refine lv_iconst (v := 1) hx hb dL_law_1204 (by decide) ?_
  refine lv_iadd hx hb dL_law_1205 ?_
  refine lv_topi (fun f_1 ef_1 => ?_)
  obtain rfl : (1 : Int32) = f_1 := (ef_1.trans (by decide)).symm
  refine va_sld hx hb hX hbl hbA hS (vp_in_nI (n := 1) (N := 5) (by decide) (by decide)) dL_law_1206 ?_
  refine lv_aload_n hx hb dL_law_1207 rfl (lv_at hl 3 rfl) ?_
  refine lv_iload_n hx hb dL_law_1208 rfl (lv_at hl 0 rfl) ?_
  refine lv_iconst (v := 2) hx hb dL_law_1209 (by decide) ?_
  refine lv_iadd hx hb dL_law_1210 ?_
  refine lv_topi (fun f_2 ef_2 => ?_)
  obtain rfl : (2 : Int32) = f_2 := (ef_2.trans (by decide)).symm
  refine va_sld hx hb hX hbl hbA hS (vp_in_nI (n := 2) (N := 5) (by decide) (by decide)) dL_law_1211 ?_
  refine lv_aload_n hx hb dL_law_1212 rfl (lv_at hl 3 rfl) ?_
  refine lv_iload_n hx hb dL_law_1213 rfl (lv_at hl 0 rfl) ?_
  refine lv_iconst (v := 3) hx hb dL_law_1214 (by decide) ?_
  refine lv_iadd hx hb dL_law_1215 ?_
  refine lv_topi (fun f_3 ef_3 => ?_)
  obtain rfl : (3 : Int32) = f_3 := (ef_3.trans (by decide)).symm
  refine va_sld hx hb hX hbl hbA hS (vp_in_nI (n := 3) (N := 5) (by decide) (by decide)) dL_law_1216 ?_
  have hPc := hP.sub (ws' := [(x0, .inr (11, (fsX g)))]) [0] rfl
  have hDc := hD.sub (ws' := [(x0, .inr (11, (fsX g)))]) [0] (by decide) rfl
  have hKc := hK
  refine vp_callSl (va_Run.run (va_runV (As := [.int (xs (1 : Int32).toNatClampNeg), .int (xs (2 : Int32).toNatClampNeg), .int (xs (3 : Int32).toNatClampNeg)]) (rest := []) ⟨hx, hb, hml, hown, hts⟩ (c_X11_field l dC dI cI cB cZ cJ cC cP cV cT cO H.size x0 g (xs (1 : Int32).toNatClampNeg) (xs (2 : Int32).toNatClampNeg) (xs (3 : Int32).toNatClampNeg)) (cwV 3 hts gq_L_law_X11_field_135 rfl rfl rfl (by decide +kernel) ⟨Nat.le_of_ble_eq_true rfl, Nat.le_of_ble_eq_true rfl⟩) ⟨fun a U g mk q => by obtain ⟨q0, q1, qP, qK, qD⟩ := q; exact ⟨q0, q1, qP, va_K.moved (u := U) (U := U.calling g mk a) (Vm.Alike.refl U.vm) qK, qD⟩, va_recv hKc hPc (ci := 11) (q0 := 0) rfl rfl, fun U hU hW => ⟨rfl, by rw [hU], by rw [hU]; exact hPc, va_K.moved hW.alike hKc, hDc.weaken (fun _ _ _ _ => trivial)⟩⟩ rfl rfl hl.1 rfl (lv_room (Nat.le_of_ble_eq_true rfl)) dL_law_1217 ⟨Nat.le_of_ble_eq_true rfl, Nat.le_of_ble_eq_true rfl⟩)) (fun r_4 hr_4 => ?_)
  obtain rfl : r_4 = (-2) := hr_4
  refine lv_aload_n hx hb dL_law_1220 rfl (lv_at hl 1 rfl) ?_
  refine lv_aload_n hx hb dL_law_1221 rfl (lv_at hl 3 rfl) ?_
  refine lv_iload_n hx hb dL_law_1222 rfl (lv_at hl 0 rfl) ?_
  refine lv_iconst (v := 1) hx hb dL_law_1223 (by decide) ?_
  refine lv_iadd hx hb dL_law_1224 ?_
  refine lv_topi (fun f_5 ef_5 => ?_)
  obtain rfl : (1 : Int32) = f_5 := (ef_5.trans (by decide)).symm
  refine va_sld hx hb hX hbl hbA hS (vp_in_nI (n := 1) (N := 5) (by decide) (by decide)) dL_law_1225 ?_
  refine lv_aload_n hx hb dL_law_1226 rfl (lv_at hl 3 rfl) ?_
  refine lv_iload_n hx hb dL_law_1227 rfl (lv_at hl 0 rfl) ?_
  refine lv_iconst (v := 2) hx hb dL_law_1228 (by decide) ?_
  refine lv_iadd hx hb dL_law_1229 ?_
  refine lv_topi (fun f_6 ef_6 => ?_)
  obtain rfl : (2 : Int32) = f_6 := (ef_6.trans (by decide)).symm
  refine va_sld hx hb hX hbl hbA hS (vp_in_nI (n := 2) (N := 5) (by decide) (by decide)) dL_law_1230 ?_
  refine lv_aload_n hx hb dL_law_1231 rfl (lv_at hl 3 rfl) ?_
  refine lv_iload_n hx hb dL_law_1232 rfl (lv_at hl 0 rfl) ?_
  refine lv_iconst (v := 3) hx hb dL_law_1233 (by decide) ?_
  refine lv_iadd hx hb dL_law_1234 ?_
  refine lv_topi (fun f_7 ef_7 => ?_)
  obtain rfl : (3 : Int32) = f_7 := (ef_7.trans (by decide)).symm
  refine va_sld hx hb hX hbl hbA hS (vp_in_nI (n := 3) (N := 5) (by decide) (by decide)) dL_law_1235 ?_
  have hPc := hP.sub (ws' := [(m0, .inr (12, (fsM gm)))]) [8] rfl
  have hDc := hD.sub (ws' := [(m0, .inr (12, (fsM gm)))]) [8] (by decide) rfl
  have hKc := hK
  refine vp_callSl (va_Run.run (va_runV (As := [.int (xs (1 : Int32).toNatClampNeg), .int (xs (2 : Int32).toNatClampNeg), .int (xs (3 : Int32).toNatClampNeg)]) (rest := [.long (-2)]) ⟨hx, hb, hml, hown, hts⟩ (c_X12_field l dC dI cI cB cZ cJ cC cP cV cT cO H.size m0 gm (xs (1 : Int32).toNatClampNeg) (xs (2 : Int32).toNatClampNeg) (xs (3 : Int32).toNatClampNeg)) (cwV 3 hts gq_L_law_X12_field_138 rfl rfl rfl (by decide +kernel) ⟨Nat.le_of_ble_eq_true rfl, Nat.le_of_ble_eq_true rfl⟩) ⟨fun a U g mk q => by obtain ⟨q0, q1, qP, qK, qD⟩ := q; exact ⟨q0, q1, qP, va_K.moved (u := U) (U := U.calling g mk a) (Vm.Alike.refl U.vm) qK, qD⟩, va_recv hKc hPc (ci := 12) (q0 := 0) rfl rfl, fun U hU hW => ⟨rfl, by rw [hU], by rw [hU]; exact hPc, va_K.moved hW.alike hKc, hDc.weaken (fun _ _ _ _ => trivial)⟩⟩ rfl rfl hl.1 rfl (lv_room (Nat.le_of_ble_eq_true rfl)) dL_law_1236 ⟨Nat.le_of_ble_eq_true rfl, Nat.le_of_ble_eq_true rfl⟩)) (fun r_8 hr_8 => ?_)
  obtain rfl : r_8 = (-2) := hr_8
  refine W.lcmp hx hb dL_law_1239 ?_
  refine lv_topi (fun f_10 ef_10 => ?_)
  obtain rfl : (0 : Int32) = f_10 := (ef_10.trans (by decide)).symm
  refine lv_if_eq (tgt := 1979) hx hb dL_law_1240 (by decide) (fun _ => ?_) (fun c_11 => absurd (by decide) c_11)
  exact law_tail l C0 hA hAl rfl hS (Nat.le_of_ble_eq_true rfl) (Nat.le_of_ble_eq_true rfl) x0 m0 ls (lv_sub hl [0, 1, 2, 3] rfl)
set_option maxHeartbeats 40000000 in
set_option maxRecDepth 100000 in
theorem law_case_29 {p : Program} {e : Env} {s : State} {m : MethodId} {below : List Frame} {meth : Method} {c : Code} (l : Launch) {b L : Nat} {xs : Nat → Int32} (C0 : lw_At p s m meth c b L xs) {A : Nat → Prop} (hA : ∀ q : Nat, s.heap.size ≤ q → A q) (hAl : ∀ q : Nat, A q → s.heap.size ≤ q) (hL : L = 5) (dC : Nat → ClassId) (dI : Nat → Nat → Nat) (cI cB cZ cJ cC cP cV cT cO : ClassId) (x0 m0 : Nat) (g tf tq tt gm : Nat → Nat) (hK : va_K (dC, dI) vwCl [(cI, .int), (cB, .byte), (cZ, .boolean), (cJ, .long), (cC, .char), (cP, .object "DiskEvidence$Picture"), (cV, .object "DiskEvidence$Volume"), (cT, .object "DiskEvidence$Tree"), (cO, .object "DiskEvidence$Opening")] s) {H : Heap} {locs : List Loc} (hP : va_P (dC, dI) vwCl [(x0, .inr (11, (fsX g))), ((g 0), .inl (cB, 4000, (.inl (fun _ => 0)))), ((g 3), .inl (cP, 6, (.inr (.inr (.inr (.inr (fun _ => none))))))), ((g 14), .inr (0, (fs0 tf))), ((g 15), .inr (6, (fs6 tq))), ((g 16), .inr (8, (fs8 tt))), ((g 17), .inl (cI, 300, (.inl (fun _ => 0)))), ((g 18), .inl (cJ, 100, (.inr (.inl (fun _ => 0))))), (m0, .inr (12, (fsM gm))), ((gm 1), .inl (cI, 4000, (.inl (fun _ => 0)))), ((gm 4), .inl (cI, 6, (.inl (fun _ => 0)))), ((gm 5), .inl (cI, 49152, (.inl (fun _ => 0)))), ((gm 6), .inl (cZ, 768, (.inl (fun _ => 0)))), ((gm 168), .inl (cI, 100, (.inl (fun _ => 0)))), ((gm 169), .inl (cI, 100, (.inl (fun _ => 0)))), ((gm 170), .inl (cI, 100, (.inl (fun _ => 0)))), ((gm 171), .inl (cJ, 100, (.inr (.inl (fun _ => 0)))))] H) (hD : va_D A [(x0, .inr (11, (fsX g))), ((g 0), .inl (cB, 4000, (.inl (fun _ => 0)))), ((g 3), .inl (cP, 6, (.inr (.inr (.inr (.inr (fun _ => none))))))), ((g 14), .inr (0, (fs0 tf))), ((g 15), .inr (6, (fs6 tq))), ((g 16), .inr (8, (fs8 tt))), ((g 17), .inl (cI, 300, (.inl (fun _ => 0)))), ((g 18), .inl (cJ, 100, (.inr (.inl (fun _ => 0))))), (m0, .inr (12, (fsM gm))), ((gm 1), .inl (cI, 4000, (.inl (fun _ => 0)))), ((gm 4), .inl (cI, 6, (.inl (fun _ => 0)))), ((gm 5), .inl (cI, 49152, (.inl (fun _ => 0)))), ((gm 6), .inl (cZ, 768, (.inl (fun _ => 0)))), ((gm 168), .inl (cI, 100, (.inl (fun _ => 0)))), ((gm 169), .inl (cI, 100, (.inl (fun _ => 0)))), ((gm 170), .inl (cI, 100, (.inl (fun _ => 0)))), ((gm 171), .inl (cJ, 100, (.inr (.inl (fun _ => 0)))))]) (hS : va_S A s.heap H locs) (ls : Array Slot) (hl : lv_has ls 4 [(3, .int 0), (2, .ref m0), (1, .ref x0), (0, .ref b)]) : W p l e room_1 s m #[Value.ref b] below meth c H locs 147 815844 (lw_Z below #[Value.ref b] s) (F0 m 1245 ls []) := by
  subst hL
  obtain ⟨hx, hb, hr, hml, hown, hts, hX, hbl, hlocks, hgv⟩ := id C0
  have hown : s.vm.findClass RL = some m.cls := hown
  have hbA : ¬ A b := fun h => absurd (hAl b h) (Nat.not_le.mpr hbl)
  refine lv_aload_n hx hb dL_law_1245 rfl (lv_at hl 2 rfl) ?_
  refine lv_aload_n hx hb dL_law_1246 rfl (lv_at hl 3 rfl) ?_
  refine lv_iload_n hx hb dL_law_1247 rfl (lv_at hl 0 rfl) ?_
  refine lv_iconst (v := 1) hx hb dL_law_1248 (by decide) ?_
  refine lv_iadd hx hb dL_law_1249 ?_
  refine lv_topi (fun f_1 ef_1 => ?_)
  obtain rfl : (1 : Int32) = f_1 := (ef_1.trans (by decide)).symm
  refine va_sld hx hb hX hbl hbA hS (vp_in_nI (n := 1) (N := 5) (by decide) (by decide)) dL_law_1250 ?_
  refine lv_aload_n hx hb dL_law_1251 rfl (lv_at hl 3 rfl) ?_
  refine lv_iload_n hx hb dL_law_1252 rfl (lv_at hl 0 rfl) ?_
  refine lv_iconst (v := 2) hx hb dL_law_1253 (by decide) ?_
  refine lv_iadd hx hb dL_law_1254 ?_
  refine lv_topi (fun f_2 ef_2 => ?_)
  obtain rfl : (2 : Int32) = f_2 := (ef_2.trans (by decide)).symm
  refine va_sld hx hb hX hbl hbA hS (vp_in_nI (n := 2) (N := 5) (by decide) (by decide)) dL_law_1255 ?_
  refine lv_aload_n hx hb dL_law_1256 rfl (lv_at hl 3 rfl) ?_
  refine lv_iload_n hx hb dL_law_1257 rfl (lv_at hl 0 rfl) ?_
  refine lv_iconst (v := 3) hx hb dL_law_1258 (by decide) ?_
  refine lv_iadd hx hb dL_law_1259 ?_
  refine lv_topi (fun f_3 ef_3 => ?_)
  obtain rfl : (3 : Int32) = f_3 := (ef_3.trans (by decide)).symm
  refine va_sld hx hb hX hbl hbA hS (vp_in_nI (n := 3) (N := 5) (by decide) (by decide)) dL_law_1260 ?_
  have hPc := hP.sub (ws' := [(x0, .inr (11, (fsX g)))]) [0] rfl
  have hDc := hD.sub (ws' := [(x0, .inr (11, (fsX g)))]) [0] (by decide) rfl
  have hKc := hK
  refine vp_callSi (va_Run.run (va_runV (As := [.int (xs (1 : Int32).toNatClampNeg), .int (xs (2 : Int32).toNatClampNeg), .int (xs (3 : Int32).toNatClampNeg)]) (rest := []) ⟨hx, hb, hml, hown, hts⟩ (c_X11_block l dC dI cI cB cZ cJ cC cP cV cT cO H.size x0 g (xs (1 : Int32).toNatClampNeg) (xs (2 : Int32).toNatClampNeg) (xs (3 : Int32).toNatClampNeg)) (cwV 3 hts gq_L_law_X11_block_139 rfl rfl rfl (by decide +kernel) ⟨Nat.le_of_ble_eq_true rfl, Nat.le_of_ble_eq_true rfl⟩) ⟨fun a U g mk q => by obtain ⟨q0, q1, qP, qK, qD⟩ := q; exact ⟨q0, q1, qP, va_K.moved (u := U) (U := U.calling g mk a) (Vm.Alike.refl U.vm) qK, qD⟩, va_recv hKc hPc (ci := 11) (q0 := 0) rfl rfl, fun U hU hW => ⟨rfl, by rw [hU], by rw [hU]; exact hPc, va_K.moved hW.alike hKc, hDc.weaken (fun _ _ _ _ => trivial)⟩⟩ rfl rfl hl.1 rfl (lv_room (Nat.le_of_ble_eq_true rfl)) dL_law_1261 ⟨Nat.le_of_ble_eq_true rfl, Nat.le_of_ble_eq_true rfl⟩)) (fun r_4 hr_4 => ?_)
  obtain rfl : r_4 = (-2) := hr_4
  refine lv_aload_n hx hb dL_law_1264 rfl (lv_at hl 1 rfl) ?_
  refine lv_aload_n hx hb dL_law_1265 rfl (lv_at hl 3 rfl) ?_
  refine lv_iload_n hx hb dL_law_1266 rfl (lv_at hl 0 rfl) ?_
  refine lv_iconst (v := 1) hx hb dL_law_1267 (by decide) ?_
  refine lv_iadd hx hb dL_law_1268 ?_
  refine lv_topi (fun f_5 ef_5 => ?_)
  obtain rfl : (1 : Int32) = f_5 := (ef_5.trans (by decide)).symm
  refine va_sld hx hb hX hbl hbA hS (vp_in_nI (n := 1) (N := 5) (by decide) (by decide)) dL_law_1269 ?_
  refine lv_aload_n hx hb dL_law_1270 rfl (lv_at hl 3 rfl) ?_
  refine lv_iload_n hx hb dL_law_1271 rfl (lv_at hl 0 rfl) ?_
  refine lv_iconst (v := 2) hx hb dL_law_1272 (by decide) ?_
  refine lv_iadd hx hb dL_law_1273 ?_
  refine lv_topi (fun f_6 ef_6 => ?_)
  obtain rfl : (2 : Int32) = f_6 := (ef_6.trans (by decide)).symm
  refine va_sld hx hb hX hbl hbA hS (vp_in_nI (n := 2) (N := 5) (by decide) (by decide)) dL_law_1274 ?_
  refine lv_aload_n hx hb dL_law_1275 rfl (lv_at hl 3 rfl) ?_
  refine lv_iload_n hx hb dL_law_1276 rfl (lv_at hl 0 rfl) ?_
  refine lv_iconst (v := 3) hx hb dL_law_1277 (by decide) ?_
  refine lv_iadd hx hb dL_law_1278 ?_
  refine lv_topi (fun f_7 ef_7 => ?_)
  obtain rfl : (3 : Int32) = f_7 := (ef_7.trans (by decide)).symm
  refine va_sld hx hb hX hbl hbA hS (vp_in_nI (n := 3) (N := 5) (by decide) (by decide)) dL_law_1279 ?_
  have hPc := hP.sub (ws' := [(m0, .inr (12, (fsM gm)))]) [8] rfl
  have hDc := hD.sub (ws' := [(m0, .inr (12, (fsM gm)))]) [8] (by decide) rfl
  have hKc := hK
  refine vp_callSi (va_Run.run (va_runV (As := [.int (xs (1 : Int32).toNatClampNeg), .int (xs (2 : Int32).toNatClampNeg), .int (xs (3 : Int32).toNatClampNeg)]) (rest := [.int (-2)]) ⟨hx, hb, hml, hown, hts⟩ (c_X12_block l dC dI cI cB cZ cJ cC cP cV cT cO H.size m0 gm (xs (1 : Int32).toNatClampNeg) (xs (2 : Int32).toNatClampNeg) (xs (3 : Int32).toNatClampNeg)) (cwV 3 hts gq_L_law_X12_block_142 rfl rfl rfl (by decide +kernel) ⟨Nat.le_of_ble_eq_true rfl, Nat.le_of_ble_eq_true rfl⟩) ⟨fun a U g mk q => by obtain ⟨q0, q1, qP, qK, qD⟩ := q; exact ⟨q0, q1, qP, va_K.moved (u := U) (U := U.calling g mk a) (Vm.Alike.refl U.vm) qK, qD⟩, va_recv hKc hPc (ci := 12) (q0 := 0) rfl rfl, fun U hU hW => ⟨rfl, by rw [hU], by rw [hU]; exact hPc, va_K.moved hW.alike hKc, hDc.weaken (fun _ _ _ _ => trivial)⟩⟩ rfl rfl hl.1 rfl (lv_room (Nat.le_of_ble_eq_true rfl)) dL_law_1280 ⟨Nat.le_of_ble_eq_true rfl, Nat.le_of_ble_eq_true rfl⟩)) (fun r_8 hr_8 => ?_)
  obtain rfl : r_8 = (-2) := hr_8
  refine lv_icmp_eq (tgt := 1979) hx hb dL_law_1283 (by decide) (fun _ => ?_) (fun c_9 => absurd (by decide) c_9)
  exact law_tail l C0 hA hAl rfl hS (Nat.le_of_ble_eq_true rfl) (Nat.le_of_ble_eq_true rfl) x0 m0 ls (lv_sub hl [0, 1, 2, 3] rfl)
set_option maxHeartbeats 40000000 in
set_option maxRecDepth 100000 in
theorem law_case_30 {p : Program} {e : Env} {s : State} {m : MethodId} {below : List Frame} {meth : Method} {c : Code} (l : Launch) {b L : Nat} {xs : Nat → Int32} (C0 : lw_At p s m meth c b L xs) {A : Nat → Prop} (hA : ∀ q : Nat, s.heap.size ≤ q → A q) (hAl : ∀ q : Nat, A q → s.heap.size ≤ q) (hL : L = 5) (dC : Nat → ClassId) (dI : Nat → Nat → Nat) (cI cB cZ cJ cC cP cV cT cO : ClassId) (x0 m0 : Nat) (g tf tq tt gm : Nat → Nat) (hK : va_K (dC, dI) vwCl [(cI, .int), (cB, .byte), (cZ, .boolean), (cJ, .long), (cC, .char), (cP, .object "DiskEvidence$Picture"), (cV, .object "DiskEvidence$Volume"), (cT, .object "DiskEvidence$Tree"), (cO, .object "DiskEvidence$Opening")] s) {H : Heap} {locs : List Loc} (hP : va_P (dC, dI) vwCl [(x0, .inr (11, (fsX g))), ((g 0), .inl (cB, 4000, (.inl (fun _ => 0)))), ((g 3), .inl (cP, 6, (.inr (.inr (.inr (.inr (fun _ => none))))))), ((g 14), .inr (0, (fs0 tf))), ((g 15), .inr (6, (fs6 tq))), ((g 16), .inr (8, (fs8 tt))), ((g 17), .inl (cI, 300, (.inl (fun _ => 0)))), ((g 18), .inl (cJ, 100, (.inr (.inl (fun _ => 0))))), (m0, .inr (12, (fsM gm))), ((gm 1), .inl (cI, 4000, (.inl (fun _ => 0)))), ((gm 4), .inl (cI, 6, (.inl (fun _ => 0)))), ((gm 5), .inl (cI, 49152, (.inl (fun _ => 0)))), ((gm 6), .inl (cZ, 768, (.inl (fun _ => 0)))), ((gm 168), .inl (cI, 100, (.inl (fun _ => 0)))), ((gm 169), .inl (cI, 100, (.inl (fun _ => 0)))), ((gm 170), .inl (cI, 100, (.inl (fun _ => 0)))), ((gm 171), .inl (cJ, 100, (.inr (.inl (fun _ => 0)))))] H) (hD : va_D A [(x0, .inr (11, (fsX g))), ((g 0), .inl (cB, 4000, (.inl (fun _ => 0)))), ((g 3), .inl (cP, 6, (.inr (.inr (.inr (.inr (fun _ => none))))))), ((g 14), .inr (0, (fs0 tf))), ((g 15), .inr (6, (fs6 tq))), ((g 16), .inr (8, (fs8 tt))), ((g 17), .inl (cI, 300, (.inl (fun _ => 0)))), ((g 18), .inl (cJ, 100, (.inr (.inl (fun _ => 0))))), (m0, .inr (12, (fsM gm))), ((gm 1), .inl (cI, 4000, (.inl (fun _ => 0)))), ((gm 4), .inl (cI, 6, (.inl (fun _ => 0)))), ((gm 5), .inl (cI, 49152, (.inl (fun _ => 0)))), ((gm 6), .inl (cZ, 768, (.inl (fun _ => 0)))), ((gm 168), .inl (cI, 100, (.inl (fun _ => 0)))), ((gm 169), .inl (cI, 100, (.inl (fun _ => 0)))), ((gm 170), .inl (cI, 100, (.inl (fun _ => 0)))), ((gm 171), .inl (cJ, 100, (.inr (.inl (fun _ => 0)))))]) (hS : va_S A s.heap H locs) (ls : Array Slot) (hl : lv_has ls 4 [(3, .int 0), (2, .ref m0), (1, .ref x0), (0, .ref b)]) : W p l e room_1 s m #[Value.ref b] below meth c H locs 147 815844 (lw_Z below #[Value.ref b] s) (F0 m 1288 ls []) := by
  subst hL
  obtain ⟨hx, hb, hr, hml, hown, hts, hX, hbl, hlocks, hgv⟩ := id C0
  have hown : s.vm.findClass RL = some m.cls := hown
  have hbA : ¬ A b := fun h => absurd (hAl b h) (Nat.not_le.mpr hbl)
  refine lv_aload_n hx hb dL_law_1288 rfl (lv_at hl 2 rfl) ?_
  refine lv_aload_n hx hb dL_law_1289 rfl (lv_at hl 3 rfl) ?_
  refine lv_iload_n hx hb dL_law_1290 rfl (lv_at hl 0 rfl) ?_
  refine lv_iconst (v := 1) hx hb dL_law_1291 (by decide) ?_
  refine lv_iadd hx hb dL_law_1292 ?_
  refine lv_topi (fun f_1 ef_1 => ?_)
  obtain rfl : (1 : Int32) = f_1 := (ef_1.trans (by decide)).symm
  refine va_sld hx hb hX hbl hbA hS (vp_in_nI (n := 1) (N := 5) (by decide) (by decide)) dL_law_1293 ?_
  refine lv_aload_n hx hb dL_law_1294 rfl (lv_at hl 3 rfl) ?_
  refine lv_iload_n hx hb dL_law_1295 rfl (lv_at hl 0 rfl) ?_
  refine lv_iconst (v := 2) hx hb dL_law_1296 (by decide) ?_
  refine lv_iadd hx hb dL_law_1297 ?_
  refine lv_topi (fun f_2 ef_2 => ?_)
  obtain rfl : (2 : Int32) = f_2 := (ef_2.trans (by decide)).symm
  refine va_sld hx hb hX hbl hbA hS (vp_in_nI (n := 2) (N := 5) (by decide) (by decide)) dL_law_1298 ?_
  refine lv_aload_n hx hb dL_law_1299 rfl (lv_at hl 3 rfl) ?_
  refine lv_iload_n hx hb dL_law_1300 rfl (lv_at hl 0 rfl) ?_
  refine lv_iconst (v := 3) hx hb dL_law_1301 (by decide) ?_
  refine lv_iadd hx hb dL_law_1302 ?_
  refine lv_topi (fun f_3 ef_3 => ?_)
  obtain rfl : (3 : Int32) = f_3 := (ef_3.trans (by decide)).symm
  refine va_sld hx hb hX hbl hbA hS (vp_in_nI (n := 3) (N := 5) (by decide) (by decide)) dL_law_1303 ?_
  have hPc := hP.sub (ws' := [(x0, .inr (11, (fsX g)))]) [0] rfl
  have hDc := hD.sub (ws' := [(x0, .inr (11, (fsX g)))]) [0] (by decide) rfl
  have hKc := hK
  refine vp_callSi (va_Run.run (va_runV (As := [.int (xs (1 : Int32).toNatClampNeg), .int (xs (2 : Int32).toNatClampNeg), .int (xs (3 : Int32).toNatClampNeg)]) (rest := []) ⟨hx, hb, hml, hown, hts⟩ (c_X11_content l dC dI cI cB cZ cJ cC cP cV cT cO H.size x0 g (xs (1 : Int32).toNatClampNeg) (xs (2 : Int32).toNatClampNeg) (xs (3 : Int32).toNatClampNeg)) (cwV 3 hts gq_L_law_X11_content_143 rfl rfl rfl (by decide +kernel) ⟨Nat.le_of_ble_eq_true rfl, Nat.le_of_ble_eq_true rfl⟩) ⟨fun a U g mk q => by obtain ⟨q0, q1, qP, qK, qD⟩ := q; exact ⟨q0, q1, qP, va_K.moved (u := U) (U := U.calling g mk a) (Vm.Alike.refl U.vm) qK, qD⟩, va_recv hKc hPc (ci := 11) (q0 := 0) rfl rfl, fun U hU hW => ⟨rfl, by rw [hU], by rw [hU]; exact hPc, va_K.moved hW.alike hKc, hDc.weaken (fun _ _ _ _ => trivial)⟩⟩ rfl rfl hl.1 rfl (lv_room (Nat.le_of_ble_eq_true rfl)) dL_law_1304 ⟨Nat.le_of_ble_eq_true rfl, Nat.le_of_ble_eq_true rfl⟩)) (fun r_4 hr_4 => ?_)
  obtain rfl : r_4 = (-2) := hr_4
  refine lv_aload_n hx hb dL_law_1307 rfl (lv_at hl 1 rfl) ?_
  refine lv_aload_n hx hb dL_law_1308 rfl (lv_at hl 3 rfl) ?_
  refine lv_iload_n hx hb dL_law_1309 rfl (lv_at hl 0 rfl) ?_
  refine lv_iconst (v := 1) hx hb dL_law_1310 (by decide) ?_
  refine lv_iadd hx hb dL_law_1311 ?_
  refine lv_topi (fun f_5 ef_5 => ?_)
  obtain rfl : (1 : Int32) = f_5 := (ef_5.trans (by decide)).symm
  refine va_sld hx hb hX hbl hbA hS (vp_in_nI (n := 1) (N := 5) (by decide) (by decide)) dL_law_1312 ?_
  refine lv_aload_n hx hb dL_law_1313 rfl (lv_at hl 3 rfl) ?_
  refine lv_iload_n hx hb dL_law_1314 rfl (lv_at hl 0 rfl) ?_
  refine lv_iconst (v := 2) hx hb dL_law_1315 (by decide) ?_
  refine lv_iadd hx hb dL_law_1316 ?_
  refine lv_topi (fun f_6 ef_6 => ?_)
  obtain rfl : (2 : Int32) = f_6 := (ef_6.trans (by decide)).symm
  refine va_sld hx hb hX hbl hbA hS (vp_in_nI (n := 2) (N := 5) (by decide) (by decide)) dL_law_1317 ?_
  refine lv_aload_n hx hb dL_law_1318 rfl (lv_at hl 3 rfl) ?_
  refine lv_iload_n hx hb dL_law_1319 rfl (lv_at hl 0 rfl) ?_
  refine lv_iconst (v := 3) hx hb dL_law_1320 (by decide) ?_
  refine lv_iadd hx hb dL_law_1321 ?_
  refine lv_topi (fun f_7 ef_7 => ?_)
  obtain rfl : (3 : Int32) = f_7 := (ef_7.trans (by decide)).symm
  refine va_sld hx hb hX hbl hbA hS (vp_in_nI (n := 3) (N := 5) (by decide) (by decide)) dL_law_1322 ?_
  have hPc := hP.sub (ws' := [(m0, .inr (12, (fsM gm)))]) [8] rfl
  have hDc := hD.sub (ws' := [(m0, .inr (12, (fsM gm)))]) [8] (by decide) rfl
  have hKc := hK
  refine vp_callSi (va_Run.run (va_runV (As := [.int (xs (1 : Int32).toNatClampNeg), .int (xs (2 : Int32).toNatClampNeg), .int (xs (3 : Int32).toNatClampNeg)]) (rest := [.int (-2)]) ⟨hx, hb, hml, hown, hts⟩ (c_X12_content l dC dI cI cB cZ cJ cC cP cV cT cO H.size m0 gm (xs (1 : Int32).toNatClampNeg) (xs (2 : Int32).toNatClampNeg) (xs (3 : Int32).toNatClampNeg)) (cwV 3 hts gq_L_law_X12_content_146 rfl rfl rfl (by decide +kernel) ⟨Nat.le_of_ble_eq_true rfl, Nat.le_of_ble_eq_true rfl⟩) ⟨fun a U g mk q => by obtain ⟨q0, q1, qP, qK, qD⟩ := q; exact ⟨q0, q1, qP, va_K.moved (u := U) (U := U.calling g mk a) (Vm.Alike.refl U.vm) qK, qD⟩, va_recv hKc hPc (ci := 12) (q0 := 0) rfl rfl, fun U hU hW => ⟨rfl, by rw [hU], by rw [hU]; exact hPc, va_K.moved hW.alike hKc, hDc.weaken (fun _ _ _ _ => trivial)⟩⟩ rfl rfl hl.1 rfl (lv_room (Nat.le_of_ble_eq_true rfl)) dL_law_1323 ⟨Nat.le_of_ble_eq_true rfl, Nat.le_of_ble_eq_true rfl⟩)) (fun r_8 hr_8 => ?_)
  obtain rfl : r_8 = (-2) := hr_8
  refine lv_icmp_eq (tgt := 1979) hx hb dL_law_1326 (by decide) (fun _ => ?_) (fun c_9 => absurd (by decide) c_9)
  exact law_tail l C0 hA hAl rfl hS (Nat.le_of_ble_eq_true rfl) (Nat.le_of_ble_eq_true rfl) x0 m0 ls (lv_sub hl [0, 1, 2, 3] rfl)
set_option maxHeartbeats 40000000 in
set_option maxRecDepth 100000 in
theorem law_case_31 {p : Program} {e : Env} {s : State} {m : MethodId} {below : List Frame} {meth : Method} {c : Code} (l : Launch) {b L : Nat} {xs : Nat → Int32} (C0 : lw_At p s m meth c b L xs) {A : Nat → Prop} (hA : ∀ q : Nat, s.heap.size ≤ q → A q) (hAl : ∀ q : Nat, A q → s.heap.size ≤ q) (hL : L = 5) (dC : Nat → ClassId) (dI : Nat → Nat → Nat) (cI cB cZ cJ cC cP cV cT cO : ClassId) (x0 m0 : Nat) (g tf tq tt gm : Nat → Nat) (hK : va_K (dC, dI) vwCl [(cI, .int), (cB, .byte), (cZ, .boolean), (cJ, .long), (cC, .char), (cP, .object "DiskEvidence$Picture"), (cV, .object "DiskEvidence$Volume"), (cT, .object "DiskEvidence$Tree"), (cO, .object "DiskEvidence$Opening")] s) {H : Heap} {locs : List Loc} (hP : va_P (dC, dI) vwCl [(x0, .inr (11, (fsX g))), ((g 0), .inl (cB, 4000, (.inl (fun _ => 0)))), ((g 3), .inl (cP, 6, (.inr (.inr (.inr (.inr (fun _ => none))))))), ((g 14), .inr (0, (fs0 tf))), ((g 15), .inr (6, (fs6 tq))), ((g 16), .inr (8, (fs8 tt))), ((g 17), .inl (cI, 300, (.inl (fun _ => 0)))), ((g 18), .inl (cJ, 100, (.inr (.inl (fun _ => 0))))), (m0, .inr (12, (fsM gm))), ((gm 1), .inl (cI, 4000, (.inl (fun _ => 0)))), ((gm 4), .inl (cI, 6, (.inl (fun _ => 0)))), ((gm 5), .inl (cI, 49152, (.inl (fun _ => 0)))), ((gm 6), .inl (cZ, 768, (.inl (fun _ => 0)))), ((gm 168), .inl (cI, 100, (.inl (fun _ => 0)))), ((gm 169), .inl (cI, 100, (.inl (fun _ => 0)))), ((gm 170), .inl (cI, 100, (.inl (fun _ => 0)))), ((gm 171), .inl (cJ, 100, (.inr (.inl (fun _ => 0)))))] H) (hD : va_D A [(x0, .inr (11, (fsX g))), ((g 0), .inl (cB, 4000, (.inl (fun _ => 0)))), ((g 3), .inl (cP, 6, (.inr (.inr (.inr (.inr (fun _ => none))))))), ((g 14), .inr (0, (fs0 tf))), ((g 15), .inr (6, (fs6 tq))), ((g 16), .inr (8, (fs8 tt))), ((g 17), .inl (cI, 300, (.inl (fun _ => 0)))), ((g 18), .inl (cJ, 100, (.inr (.inl (fun _ => 0))))), (m0, .inr (12, (fsM gm))), ((gm 1), .inl (cI, 4000, (.inl (fun _ => 0)))), ((gm 4), .inl (cI, 6, (.inl (fun _ => 0)))), ((gm 5), .inl (cI, 49152, (.inl (fun _ => 0)))), ((gm 6), .inl (cZ, 768, (.inl (fun _ => 0)))), ((gm 168), .inl (cI, 100, (.inl (fun _ => 0)))), ((gm 169), .inl (cI, 100, (.inl (fun _ => 0)))), ((gm 170), .inl (cI, 100, (.inl (fun _ => 0)))), ((gm 171), .inl (cJ, 100, (.inr (.inl (fun _ => 0)))))]) (hS : va_S A s.heap H locs) (ls : Array Slot) (hl : lv_has ls 4 [(3, .int 0), (2, .ref m0), (1, .ref x0), (0, .ref b)]) : W p l e room_1 s m #[Value.ref b] below meth c H locs 147 815844 (lw_Z below #[Value.ref b] s) (F0 m 1331 ls []) := by
  subst hL
  obtain ⟨hx, hb, hr, hml, hown, hts, hX, hbl, hlocks, hgv⟩ := id C0
  have hown : s.vm.findClass RL = some m.cls := hown
  have hbA : ¬ A b := fun h => absurd (hAl b h) (Nat.not_le.mpr hbl)
  refine lv_aload_n hx hb dL_law_1331 rfl (lv_at hl 2 rfl) ?_
  refine lv_aload_n hx hb dL_law_1332 rfl (lv_at hl 3 rfl) ?_
  refine lv_iload_n hx hb dL_law_1333 rfl (lv_at hl 0 rfl) ?_
  refine lv_iconst (v := 1) hx hb dL_law_1334 (by decide) ?_
  refine lv_iadd hx hb dL_law_1335 ?_
  refine lv_topi (fun f_1 ef_1 => ?_)
  obtain rfl : (1 : Int32) = f_1 := (ef_1.trans (by decide)).symm
  refine va_sld hx hb hX hbl hbA hS (vp_in_nI (n := 1) (N := 5) (by decide) (by decide)) dL_law_1336 ?_
  refine lv_aload_n hx hb dL_law_1337 rfl (lv_at hl 3 rfl) ?_
  refine lv_iload_n hx hb dL_law_1338 rfl (lv_at hl 0 rfl) ?_
  refine lv_iconst (v := 2) hx hb dL_law_1339 (by decide) ?_
  refine lv_iadd hx hb dL_law_1340 ?_
  refine lv_topi (fun f_2 ef_2 => ?_)
  obtain rfl : (2 : Int32) = f_2 := (ef_2.trans (by decide)).symm
  refine va_sld hx hb hX hbl hbA hS (vp_in_nI (n := 2) (N := 5) (by decide) (by decide)) dL_law_1341 ?_
  refine lv_aload_n hx hb dL_law_1342 rfl (lv_at hl 3 rfl) ?_
  refine lv_iload_n hx hb dL_law_1343 rfl (lv_at hl 0 rfl) ?_
  refine lv_iconst (v := 3) hx hb dL_law_1344 (by decide) ?_
  refine lv_iadd hx hb dL_law_1345 ?_
  refine lv_topi (fun f_3 ef_3 => ?_)
  obtain rfl : (3 : Int32) = f_3 := (ef_3.trans (by decide)).symm
  refine va_sld hx hb hX hbl hbA hS (vp_in_nI (n := 3) (N := 5) (by decide) (by decide)) dL_law_1346 ?_
  have hPc := hP.sub (ws' := [(x0, .inr (11, (fsX g)))]) [0] rfl
  have hDc := hD.sub (ws' := [(x0, .inr (11, (fsX g)))]) [0] (by decide) rfl
  have hKc := hK
  refine vp_callSi (va_Run.run (va_runV (As := [.int (xs (1 : Int32).toNatClampNeg), .int (xs (2 : Int32).toNatClampNeg), .int (xs (3 : Int32).toNatClampNeg)]) (rest := []) ⟨hx, hb, hml, hown, hts⟩ (c_X11_slack l dC dI cI cB cZ cJ cC cP cV cT cO H.size x0 g (xs (1 : Int32).toNatClampNeg) (xs (2 : Int32).toNatClampNeg) (xs (3 : Int32).toNatClampNeg)) (cwV 3 hts gq_L_law_X11_slack_147 rfl rfl rfl (by decide +kernel) ⟨Nat.le_of_ble_eq_true rfl, Nat.le_of_ble_eq_true rfl⟩) ⟨fun a U g mk q => by obtain ⟨q0, q1, qP, qK, qD⟩ := q; exact ⟨q0, q1, qP, va_K.moved (u := U) (U := U.calling g mk a) (Vm.Alike.refl U.vm) qK, qD⟩, va_recv hKc hPc (ci := 11) (q0 := 0) rfl rfl, fun U hU hW => ⟨rfl, by rw [hU], by rw [hU]; exact hPc, va_K.moved hW.alike hKc, hDc.weaken (fun _ _ _ _ => trivial)⟩⟩ rfl rfl hl.1 rfl (lv_room (Nat.le_of_ble_eq_true rfl)) dL_law_1347 ⟨Nat.le_of_ble_eq_true rfl, Nat.le_of_ble_eq_true rfl⟩)) (fun r_4 hr_4 => ?_)
  obtain rfl : r_4 = (-2) := hr_4
  refine lv_aload_n hx hb dL_law_1350 rfl (lv_at hl 1 rfl) ?_
  refine lv_aload_n hx hb dL_law_1351 rfl (lv_at hl 3 rfl) ?_
  refine lv_iload_n hx hb dL_law_1352 rfl (lv_at hl 0 rfl) ?_
  refine lv_iconst (v := 1) hx hb dL_law_1353 (by decide) ?_
  refine lv_iadd hx hb dL_law_1354 ?_
  refine lv_topi (fun f_5 ef_5 => ?_)
  obtain rfl : (1 : Int32) = f_5 := (ef_5.trans (by decide)).symm
  refine va_sld hx hb hX hbl hbA hS (vp_in_nI (n := 1) (N := 5) (by decide) (by decide)) dL_law_1355 ?_
  refine lv_aload_n hx hb dL_law_1356 rfl (lv_at hl 3 rfl) ?_
  refine lv_iload_n hx hb dL_law_1357 rfl (lv_at hl 0 rfl) ?_
  refine lv_iconst (v := 2) hx hb dL_law_1358 (by decide) ?_
  refine lv_iadd hx hb dL_law_1359 ?_
  refine lv_topi (fun f_6 ef_6 => ?_)
  obtain rfl : (2 : Int32) = f_6 := (ef_6.trans (by decide)).symm
  refine va_sld hx hb hX hbl hbA hS (vp_in_nI (n := 2) (N := 5) (by decide) (by decide)) dL_law_1360 ?_
  refine lv_aload_n hx hb dL_law_1361 rfl (lv_at hl 3 rfl) ?_
  refine lv_iload_n hx hb dL_law_1362 rfl (lv_at hl 0 rfl) ?_
  refine lv_iconst (v := 3) hx hb dL_law_1363 (by decide) ?_
  refine lv_iadd hx hb dL_law_1364 ?_
  refine lv_topi (fun f_7 ef_7 => ?_)
  obtain rfl : (3 : Int32) = f_7 := (ef_7.trans (by decide)).symm
  refine va_sld hx hb hX hbl hbA hS (vp_in_nI (n := 3) (N := 5) (by decide) (by decide)) dL_law_1365 ?_
  have hPc := hP.sub (ws' := [(m0, .inr (12, (fsM gm)))]) [8] rfl
  have hDc := hD.sub (ws' := [(m0, .inr (12, (fsM gm)))]) [8] (by decide) rfl
  have hKc := hK
  refine vp_callSi (va_Run.run (va_runV (As := [.int (xs (1 : Int32).toNatClampNeg), .int (xs (2 : Int32).toNatClampNeg), .int (xs (3 : Int32).toNatClampNeg)]) (rest := [.int (-2)]) ⟨hx, hb, hml, hown, hts⟩ (c_X12_slack l dC dI cI cB cZ cJ cC cP cV cT cO H.size m0 gm (xs (1 : Int32).toNatClampNeg) (xs (2 : Int32).toNatClampNeg) (xs (3 : Int32).toNatClampNeg)) (cwV 3 hts gq_L_law_X12_slack_150 rfl rfl rfl (by decide +kernel) ⟨Nat.le_of_ble_eq_true rfl, Nat.le_of_ble_eq_true rfl⟩) ⟨fun a U g mk q => by obtain ⟨q0, q1, qP, qK, qD⟩ := q; exact ⟨q0, q1, qP, va_K.moved (u := U) (U := U.calling g mk a) (Vm.Alike.refl U.vm) qK, qD⟩, va_recv hKc hPc (ci := 12) (q0 := 0) rfl rfl, fun U hU hW => ⟨rfl, by rw [hU], by rw [hU]; exact hPc, va_K.moved hW.alike hKc, hDc.weaken (fun _ _ _ _ => trivial)⟩⟩ rfl rfl hl.1 rfl (lv_room (Nat.le_of_ble_eq_true rfl)) dL_law_1366 ⟨Nat.le_of_ble_eq_true rfl, Nat.le_of_ble_eq_true rfl⟩)) (fun r_8 hr_8 => ?_)
  obtain rfl : r_8 = (-2) := hr_8
  refine lv_icmp_eq (tgt := 1979) hx hb dL_law_1369 (by decide) (fun _ => ?_) (fun c_9 => absurd (by decide) c_9)
  exact law_tail l C0 hA hAl rfl hS (Nat.le_of_ble_eq_true rfl) (Nat.le_of_ble_eq_true rfl) x0 m0 ls (lv_sub hl [0, 1, 2, 3] rfl)
set_option maxHeartbeats 40000000 in
set_option maxRecDepth 100000 in
theorem law_case_32 {p : Program} {e : Env} {s : State} {m : MethodId} {below : List Frame} {meth : Method} {c : Code} (l : Launch) {b L : Nat} {xs : Nat → Int32} (C0 : lw_At p s m meth c b L xs) {A : Nat → Prop} (hA : ∀ q : Nat, s.heap.size ≤ q → A q) (hAl : ∀ q : Nat, A q → s.heap.size ≤ q) (hL : L = 5) (dC : Nat → ClassId) (dI : Nat → Nat → Nat) (cI cB cZ cJ cC cP cV cT cO : ClassId) (x0 m0 : Nat) (g tf tq tt gm : Nat → Nat) (hK : va_K (dC, dI) vwCl [(cI, .int), (cB, .byte), (cZ, .boolean), (cJ, .long), (cC, .char), (cP, .object "DiskEvidence$Picture"), (cV, .object "DiskEvidence$Volume"), (cT, .object "DiskEvidence$Tree"), (cO, .object "DiskEvidence$Opening")] s) {H : Heap} {locs : List Loc} (hP : va_P (dC, dI) vwCl [(x0, .inr (11, (fsX g))), ((g 0), .inl (cB, 4000, (.inl (fun _ => 0)))), ((g 3), .inl (cP, 6, (.inr (.inr (.inr (.inr (fun _ => none))))))), ((g 14), .inr (0, (fs0 tf))), ((g 15), .inr (6, (fs6 tq))), ((g 16), .inr (8, (fs8 tt))), ((g 17), .inl (cI, 300, (.inl (fun _ => 0)))), ((g 18), .inl (cJ, 100, (.inr (.inl (fun _ => 0))))), (m0, .inr (12, (fsM gm))), ((gm 1), .inl (cI, 4000, (.inl (fun _ => 0)))), ((gm 4), .inl (cI, 6, (.inl (fun _ => 0)))), ((gm 5), .inl (cI, 49152, (.inl (fun _ => 0)))), ((gm 6), .inl (cZ, 768, (.inl (fun _ => 0)))), ((gm 168), .inl (cI, 100, (.inl (fun _ => 0)))), ((gm 169), .inl (cI, 100, (.inl (fun _ => 0)))), ((gm 170), .inl (cI, 100, (.inl (fun _ => 0)))), ((gm 171), .inl (cJ, 100, (.inr (.inl (fun _ => 0)))))] H) (hD : va_D A [(x0, .inr (11, (fsX g))), ((g 0), .inl (cB, 4000, (.inl (fun _ => 0)))), ((g 3), .inl (cP, 6, (.inr (.inr (.inr (.inr (fun _ => none))))))), ((g 14), .inr (0, (fs0 tf))), ((g 15), .inr (6, (fs6 tq))), ((g 16), .inr (8, (fs8 tt))), ((g 17), .inl (cI, 300, (.inl (fun _ => 0)))), ((g 18), .inl (cJ, 100, (.inr (.inl (fun _ => 0))))), (m0, .inr (12, (fsM gm))), ((gm 1), .inl (cI, 4000, (.inl (fun _ => 0)))), ((gm 4), .inl (cI, 6, (.inl (fun _ => 0)))), ((gm 5), .inl (cI, 49152, (.inl (fun _ => 0)))), ((gm 6), .inl (cZ, 768, (.inl (fun _ => 0)))), ((gm 168), .inl (cI, 100, (.inl (fun _ => 0)))), ((gm 169), .inl (cI, 100, (.inl (fun _ => 0)))), ((gm 170), .inl (cI, 100, (.inl (fun _ => 0)))), ((gm 171), .inl (cJ, 100, (.inr (.inl (fun _ => 0)))))]) (hS : va_S A s.heap H locs) (ls : Array Slot) (hl : lv_has ls 4 [(3, .int 0), (2, .ref m0), (1, .ref x0), (0, .ref b)]) : W p l e room_1 s m #[Value.ref b] below meth c H locs 147 815844 (lw_Z below #[Value.ref b] s) (F0 m 1374 ls []) := by
  subst hL
  obtain ⟨hx, hb, hr, hml, hown, hts, hX, hbl, hlocks, hgv⟩ := id C0
  have hown : s.vm.findClass RL = some m.cls := hown
  have hbA : ¬ A b := fun h => absurd (hAl b h) (Nat.not_le.mpr hbl)
  refine lv_aload_n hx hb dL_law_1374 rfl (lv_at hl 2 rfl) ?_
  refine lv_aload_n hx hb dL_law_1375 rfl (lv_at hl 3 rfl) ?_
  refine lv_iload_n hx hb dL_law_1376 rfl (lv_at hl 0 rfl) ?_
  refine lv_iconst (v := 1) hx hb dL_law_1377 (by decide) ?_
  refine lv_iadd hx hb dL_law_1378 ?_
  refine lv_topi (fun f_1 ef_1 => ?_)
  obtain rfl : (1 : Int32) = f_1 := (ef_1.trans (by decide)).symm
  refine va_sld hx hb hX hbl hbA hS (vp_in_nI (n := 1) (N := 5) (by decide) (by decide)) dL_law_1379 ?_
  refine lv_aload_n hx hb dL_law_1380 rfl (lv_at hl 3 rfl) ?_
  refine lv_iload_n hx hb dL_law_1381 rfl (lv_at hl 0 rfl) ?_
  refine lv_iconst (v := 2) hx hb dL_law_1382 (by decide) ?_
  refine lv_iadd hx hb dL_law_1383 ?_
  refine lv_topi (fun f_2 ef_2 => ?_)
  obtain rfl : (2 : Int32) = f_2 := (ef_2.trans (by decide)).symm
  refine va_sld hx hb hX hbl hbA hS (vp_in_nI (n := 2) (N := 5) (by decide) (by decide)) dL_law_1384 ?_
  have hPc := hP.sub (ws' := [(x0, .inr (11, (fsX g)))]) [0] rfl
  have hDc := hD.sub (ws' := [(x0, .inr (11, (fsX g)))]) [0] (by decide) rfl
  have hKc := hK
  refine vp_callSi (va_Run.run (va_runV (As := [.int (xs (1 : Int32).toNatClampNeg), .int (xs (2 : Int32).toNatClampNeg)]) (rest := []) ⟨hx, hb, hml, hown, hts⟩ (c_X11_open l dC dI cI cB cZ cJ cC cP cV cT cO H.size x0 g (xs (1 : Int32).toNatClampNeg) (xs (2 : Int32).toNatClampNeg)) (cwV 2 hts gq_L_law_X11_open_151 rfl rfl rfl (by decide +kernel) ⟨Nat.le_of_ble_eq_true rfl, Nat.le_of_ble_eq_true rfl⟩) ⟨fun a U g mk q => by obtain ⟨q0, q1, qP, qK, qD⟩ := q; exact ⟨q0, q1, qP, va_K.moved (u := U) (U := U.calling g mk a) (Vm.Alike.refl U.vm) qK, qD⟩, va_recv hKc hPc (ci := 11) (q0 := 0) rfl rfl, fun U hU hW => ⟨rfl, by rw [hU], by rw [hU]; exact hPc, va_K.moved hW.alike hKc, hDc.weaken (fun _ _ _ _ => trivial)⟩⟩ rfl rfl hl.1 rfl (lv_room (Nat.le_of_ble_eq_true rfl)) dL_law_1385 ⟨Nat.le_of_ble_eq_true rfl, Nat.le_of_ble_eq_true rfl⟩)) (fun r_3 hr_3 => ?_)
  obtain rfl : r_3 = (-2) := hr_3
  refine lv_aload_n hx hb dL_law_1388 rfl (lv_at hl 1 rfl) ?_
  refine lv_aload_n hx hb dL_law_1389 rfl (lv_at hl 3 rfl) ?_
  refine lv_iload_n hx hb dL_law_1390 rfl (lv_at hl 0 rfl) ?_
  refine lv_iconst (v := 1) hx hb dL_law_1391 (by decide) ?_
  refine lv_iadd hx hb dL_law_1392 ?_
  refine lv_topi (fun f_4 ef_4 => ?_)
  obtain rfl : (1 : Int32) = f_4 := (ef_4.trans (by decide)).symm
  refine va_sld hx hb hX hbl hbA hS (vp_in_nI (n := 1) (N := 5) (by decide) (by decide)) dL_law_1393 ?_
  refine lv_aload_n hx hb dL_law_1394 rfl (lv_at hl 3 rfl) ?_
  refine lv_iload_n hx hb dL_law_1395 rfl (lv_at hl 0 rfl) ?_
  refine lv_iconst (v := 2) hx hb dL_law_1396 (by decide) ?_
  refine lv_iadd hx hb dL_law_1397 ?_
  refine lv_topi (fun f_5 ef_5 => ?_)
  obtain rfl : (2 : Int32) = f_5 := (ef_5.trans (by decide)).symm
  refine va_sld hx hb hX hbl hbA hS (vp_in_nI (n := 2) (N := 5) (by decide) (by decide)) dL_law_1398 ?_
  have hPc := hP.sub (ws' := [(m0, .inr (12, (fsM gm)))]) [8] rfl
  have hDc := hD.sub (ws' := [(m0, .inr (12, (fsM gm)))]) [8] (by decide) rfl
  have hKc := hK
  refine vp_callSi (va_Run.run (va_runV (As := [.int (xs (1 : Int32).toNatClampNeg), .int (xs (2 : Int32).toNatClampNeg)]) (rest := [.int (-2)]) ⟨hx, hb, hml, hown, hts⟩ (c_X12_open l dC dI cI cB cZ cJ cC cP cV cT cO H.size m0 gm (xs (1 : Int32).toNatClampNeg) (xs (2 : Int32).toNatClampNeg)) (cwV 2 hts gq_L_law_X12_open_154 rfl rfl rfl (by decide +kernel) ⟨Nat.le_of_ble_eq_true rfl, Nat.le_of_ble_eq_true rfl⟩) ⟨fun a U g mk q => by obtain ⟨q0, q1, qP, qK, qD⟩ := q; exact ⟨q0, q1, qP, va_K.moved (u := U) (U := U.calling g mk a) (Vm.Alike.refl U.vm) qK, qD⟩, va_recv hKc hPc (ci := 12) (q0 := 0) rfl rfl, fun U hU hW => ⟨rfl, by rw [hU], by rw [hU]; exact hPc, va_K.moved hW.alike hKc, hDc.weaken (fun _ _ _ _ => trivial)⟩⟩ rfl rfl hl.1 rfl (lv_room (Nat.le_of_ble_eq_true rfl)) dL_law_1399 ⟨Nat.le_of_ble_eq_true rfl, Nat.le_of_ble_eq_true rfl⟩)) (fun r_6 hr_6 => ?_)
  obtain rfl : r_6 = (-2) := hr_6
  refine lv_icmp_eq (tgt := 1979) hx hb dL_law_1402 (by decide) (fun _ => ?_) (fun c_7 => absurd (by decide) c_7)
  exact law_tail l C0 hA hAl rfl hS (Nat.le_of_ble_eq_true rfl) (Nat.le_of_ble_eq_true rfl) x0 m0 ls (lv_sub hl [0, 1, 2, 3] rfl)
set_option maxHeartbeats 40000000 in
set_option maxRecDepth 100000 in
theorem law_case_33 {p : Program} {e : Env} {s : State} {m : MethodId} {below : List Frame} {meth : Method} {c : Code} (l : Launch) {b L : Nat} {xs : Nat → Int32} (C0 : lw_At p s m meth c b L xs) {A : Nat → Prop} (hA : ∀ q : Nat, s.heap.size ≤ q → A q) (hAl : ∀ q : Nat, A q → s.heap.size ≤ q) (hL : L = 5) (dC : Nat → ClassId) (dI : Nat → Nat → Nat) (cI cB cZ cJ cC cP cV cT cO : ClassId) (x0 m0 : Nat) (g tf tq tt gm : Nat → Nat) (hK : va_K (dC, dI) vwCl [(cI, .int), (cB, .byte), (cZ, .boolean), (cJ, .long), (cC, .char), (cP, .object "DiskEvidence$Picture"), (cV, .object "DiskEvidence$Volume"), (cT, .object "DiskEvidence$Tree"), (cO, .object "DiskEvidence$Opening")] s) {H : Heap} {locs : List Loc} (hP : va_P (dC, dI) vwCl [(x0, .inr (11, (fsX g))), ((g 0), .inl (cB, 4000, (.inl (fun _ => 0)))), ((g 3), .inl (cP, 6, (.inr (.inr (.inr (.inr (fun _ => none))))))), ((g 14), .inr (0, (fs0 tf))), ((g 15), .inr (6, (fs6 tq))), ((g 16), .inr (8, (fs8 tt))), ((g 17), .inl (cI, 300, (.inl (fun _ => 0)))), ((g 18), .inl (cJ, 100, (.inr (.inl (fun _ => 0))))), (m0, .inr (12, (fsM gm))), ((gm 1), .inl (cI, 4000, (.inl (fun _ => 0)))), ((gm 4), .inl (cI, 6, (.inl (fun _ => 0)))), ((gm 5), .inl (cI, 49152, (.inl (fun _ => 0)))), ((gm 6), .inl (cZ, 768, (.inl (fun _ => 0)))), ((gm 168), .inl (cI, 100, (.inl (fun _ => 0)))), ((gm 169), .inl (cI, 100, (.inl (fun _ => 0)))), ((gm 170), .inl (cI, 100, (.inl (fun _ => 0)))), ((gm 171), .inl (cJ, 100, (.inr (.inl (fun _ => 0)))))] H) (hD : va_D A [(x0, .inr (11, (fsX g))), ((g 0), .inl (cB, 4000, (.inl (fun _ => 0)))), ((g 3), .inl (cP, 6, (.inr (.inr (.inr (.inr (fun _ => none))))))), ((g 14), .inr (0, (fs0 tf))), ((g 15), .inr (6, (fs6 tq))), ((g 16), .inr (8, (fs8 tt))), ((g 17), .inl (cI, 300, (.inl (fun _ => 0)))), ((g 18), .inl (cJ, 100, (.inr (.inl (fun _ => 0))))), (m0, .inr (12, (fsM gm))), ((gm 1), .inl (cI, 4000, (.inl (fun _ => 0)))), ((gm 4), .inl (cI, 6, (.inl (fun _ => 0)))), ((gm 5), .inl (cI, 49152, (.inl (fun _ => 0)))), ((gm 6), .inl (cZ, 768, (.inl (fun _ => 0)))), ((gm 168), .inl (cI, 100, (.inl (fun _ => 0)))), ((gm 169), .inl (cI, 100, (.inl (fun _ => 0)))), ((gm 170), .inl (cI, 100, (.inl (fun _ => 0)))), ((gm 171), .inl (cJ, 100, (.inr (.inl (fun _ => 0)))))]) (hS : va_S A s.heap H locs) (ls : Array Slot) (hl : lv_has ls 4 [(3, .int 0), (2, .ref m0), (1, .ref x0), (0, .ref b)]) : W p l e room_1 s m #[Value.ref b] below meth c H locs 147 815844 (lw_Z below #[Value.ref b] s) (F0 m 1407 ls []) := by
  subst hL
  obtain ⟨hx, hb, hr, hml, hown, hts, hX, hbl, hlocks, hgv⟩ := id C0
  have hown : s.vm.findClass RL = some m.cls := hown
  have hbA : ¬ A b := fun h => absurd (hAl b h) (Nat.not_le.mpr hbl)
  refine lv_aload_n hx hb dL_law_1407 rfl (lv_at hl 2 rfl) ?_
  refine lv_aload_n hx hb dL_law_1408 rfl (lv_at hl 3 rfl) ?_
  refine lv_iload_n hx hb dL_law_1409 rfl (lv_at hl 0 rfl) ?_
  refine lv_iconst (v := 1) hx hb dL_law_1410 (by decide) ?_
  refine lv_iadd hx hb dL_law_1411 ?_
  refine lv_topi (fun f_1 ef_1 => ?_)
  obtain rfl : (1 : Int32) = f_1 := (ef_1.trans (by decide)).symm
  refine va_sld hx hb hX hbl hbA hS (vp_in_nI (n := 1) (N := 5) (by decide) (by decide)) dL_law_1412 ?_
  refine lv_aload_n hx hb dL_law_1413 rfl (lv_at hl 3 rfl) ?_
  refine lv_iload_n hx hb dL_law_1414 rfl (lv_at hl 0 rfl) ?_
  refine lv_iconst (v := 2) hx hb dL_law_1415 (by decide) ?_
  refine lv_iadd hx hb dL_law_1416 ?_
  refine lv_topi (fun f_2 ef_2 => ?_)
  obtain rfl : (2 : Int32) = f_2 := (ef_2.trans (by decide)).symm
  refine va_sld hx hb hX hbl hbA hS (vp_in_nI (n := 2) (N := 5) (by decide) (by decide)) dL_law_1417 ?_
  refine lv_aload_n hx hb dL_law_1418 rfl (lv_at hl 3 rfl) ?_
  refine lv_iload_n hx hb dL_law_1419 rfl (lv_at hl 0 rfl) ?_
  refine lv_iconst (v := 3) hx hb dL_law_1420 (by decide) ?_
  refine lv_iadd hx hb dL_law_1421 ?_
  refine lv_topi (fun f_3 ef_3 => ?_)
  obtain rfl : (3 : Int32) = f_3 := (ef_3.trans (by decide)).symm
  refine va_sld hx hb hX hbl hbA hS (vp_in_nI (n := 3) (N := 5) (by decide) (by decide)) dL_law_1422 ?_
  have hPc := hP.sub (ws' := [(x0, .inr (11, (fsX g)))]) [0] rfl
  have hDc := hD.sub (ws' := [(x0, .inr (11, (fsX g)))]) [0] (by decide) rfl
  have hKc := hK
  refine vp_callSi (va_Run.run (va_runV (As := [.int (xs (1 : Int32).toNatClampNeg), .int (xs (2 : Int32).toNatClampNeg), .int (xs (3 : Int32).toNatClampNeg)]) (rest := []) ⟨hx, hb, hml, hown, hts⟩ (c_X11_node l dC dI cI cB cZ cJ cC cP cV cT cO H.size x0 g (xs (1 : Int32).toNatClampNeg) (xs (2 : Int32).toNatClampNeg) (xs (3 : Int32).toNatClampNeg)) (cwV 3 hts gq_L_law_X11_node_155 rfl rfl rfl (by decide +kernel) ⟨Nat.le_of_ble_eq_true rfl, Nat.le_of_ble_eq_true rfl⟩) ⟨fun a U g mk q => by obtain ⟨q0, q1, qP, qK, qD⟩ := q; exact ⟨q0, q1, qP, va_K.moved (u := U) (U := U.calling g mk a) (Vm.Alike.refl U.vm) qK, qD⟩, va_recv hKc hPc (ci := 11) (q0 := 0) rfl rfl, fun U hU hW => ⟨rfl, by rw [hU], by rw [hU]; exact hPc, va_K.moved hW.alike hKc, hDc.weaken (fun _ _ _ _ => trivial)⟩⟩ rfl rfl hl.1 rfl (lv_room (Nat.le_of_ble_eq_true rfl)) dL_law_1423 ⟨Nat.le_of_ble_eq_true rfl, Nat.le_of_ble_eq_true rfl⟩)) (fun r_4 hr_4 => ?_)
  obtain rfl : r_4 = (-2) := hr_4
  refine lv_aload_n hx hb dL_law_1426 rfl (lv_at hl 1 rfl) ?_
  refine lv_aload_n hx hb dL_law_1427 rfl (lv_at hl 3 rfl) ?_
  refine lv_iload_n hx hb dL_law_1428 rfl (lv_at hl 0 rfl) ?_
  refine lv_iconst (v := 1) hx hb dL_law_1429 (by decide) ?_
  refine lv_iadd hx hb dL_law_1430 ?_
  refine lv_topi (fun f_5 ef_5 => ?_)
  obtain rfl : (1 : Int32) = f_5 := (ef_5.trans (by decide)).symm
  refine va_sld hx hb hX hbl hbA hS (vp_in_nI (n := 1) (N := 5) (by decide) (by decide)) dL_law_1431 ?_
  refine lv_aload_n hx hb dL_law_1432 rfl (lv_at hl 3 rfl) ?_
  refine lv_iload_n hx hb dL_law_1433 rfl (lv_at hl 0 rfl) ?_
  refine lv_iconst (v := 2) hx hb dL_law_1434 (by decide) ?_
  refine lv_iadd hx hb dL_law_1435 ?_
  refine lv_topi (fun f_6 ef_6 => ?_)
  obtain rfl : (2 : Int32) = f_6 := (ef_6.trans (by decide)).symm
  refine va_sld hx hb hX hbl hbA hS (vp_in_nI (n := 2) (N := 5) (by decide) (by decide)) dL_law_1436 ?_
  refine lv_aload_n hx hb dL_law_1437 rfl (lv_at hl 3 rfl) ?_
  refine lv_iload_n hx hb dL_law_1438 rfl (lv_at hl 0 rfl) ?_
  refine lv_iconst (v := 3) hx hb dL_law_1439 (by decide) ?_
  refine lv_iadd hx hb dL_law_1440 ?_
  refine lv_topi (fun f_7 ef_7 => ?_)
  obtain rfl : (3 : Int32) = f_7 := (ef_7.trans (by decide)).symm
  refine va_sld hx hb hX hbl hbA hS (vp_in_nI (n := 3) (N := 5) (by decide) (by decide)) dL_law_1441 ?_
  have hPc := hP.sub (ws' := [(m0, .inr (12, (fsM gm)))]) [8] rfl
  have hDc := hD.sub (ws' := [(m0, .inr (12, (fsM gm)))]) [8] (by decide) rfl
  have hKc := hK
  refine vp_callSi (va_Run.run (va_runV (As := [.int (xs (1 : Int32).toNatClampNeg), .int (xs (2 : Int32).toNatClampNeg), .int (xs (3 : Int32).toNatClampNeg)]) (rest := [.int (-2)]) ⟨hx, hb, hml, hown, hts⟩ (c_X12_node l dC dI cI cB cZ cJ cC cP cV cT cO H.size m0 gm (xs (1 : Int32).toNatClampNeg) (xs (2 : Int32).toNatClampNeg) (xs (3 : Int32).toNatClampNeg)) (cwV 3 hts gq_L_law_X12_node_158 rfl rfl rfl (by decide +kernel) ⟨Nat.le_of_ble_eq_true rfl, Nat.le_of_ble_eq_true rfl⟩) ⟨fun a U g mk q => by obtain ⟨q0, q1, qP, qK, qD⟩ := q; exact ⟨q0, q1, qP, va_K.moved (u := U) (U := U.calling g mk a) (Vm.Alike.refl U.vm) qK, qD⟩, va_recv hKc hPc (ci := 12) (q0 := 0) rfl rfl, fun U hU hW => ⟨rfl, by rw [hU], by rw [hU]; exact hPc, va_K.moved hW.alike hKc, hDc.weaken (fun _ _ _ _ => trivial)⟩⟩ rfl rfl hl.1 rfl (lv_room (Nat.le_of_ble_eq_true rfl)) dL_law_1442 ⟨Nat.le_of_ble_eq_true rfl, Nat.le_of_ble_eq_true rfl⟩)) (fun r_8 hr_8 => ?_)
  obtain rfl : r_8 = (-2) := hr_8
  refine lv_icmp_eq (tgt := 1979) hx hb dL_law_1445 (by decide) (fun _ => ?_) (fun c_9 => absurd (by decide) c_9)
  exact law_tail l C0 hA hAl rfl hS (Nat.le_of_ble_eq_true rfl) (Nat.le_of_ble_eq_true rfl) x0 m0 ls (lv_sub hl [0, 1, 2, 3] rfl)
set_option maxHeartbeats 40000000 in
set_option maxRecDepth 100000 in
theorem law_case_34 {p : Program} {e : Env} {s : State} {m : MethodId} {below : List Frame} {meth : Method} {c : Code} (l : Launch) {b L : Nat} {xs : Nat → Int32} (C0 : lw_At p s m meth c b L xs) {A : Nat → Prop} (hA : ∀ q : Nat, s.heap.size ≤ q → A q) (hAl : ∀ q : Nat, A q → s.heap.size ≤ q) (hL : L = 5) (dC : Nat → ClassId) (dI : Nat → Nat → Nat) (cI cB cZ cJ cC cP cV cT cO : ClassId) (x0 m0 : Nat) (g tf tq tt gm : Nat → Nat) (hK : va_K (dC, dI) vwCl [(cI, .int), (cB, .byte), (cZ, .boolean), (cJ, .long), (cC, .char), (cP, .object "DiskEvidence$Picture"), (cV, .object "DiskEvidence$Volume"), (cT, .object "DiskEvidence$Tree"), (cO, .object "DiskEvidence$Opening")] s) {H : Heap} {locs : List Loc} (hP : va_P (dC, dI) vwCl [(x0, .inr (11, (fsX g))), ((g 0), .inl (cB, 4000, (.inl (fun _ => 0)))), ((g 3), .inl (cP, 6, (.inr (.inr (.inr (.inr (fun _ => none))))))), ((g 14), .inr (0, (fs0 tf))), ((g 15), .inr (6, (fs6 tq))), ((g 16), .inr (8, (fs8 tt))), ((g 17), .inl (cI, 300, (.inl (fun _ => 0)))), ((g 18), .inl (cJ, 100, (.inr (.inl (fun _ => 0))))), (m0, .inr (12, (fsM gm))), ((gm 1), .inl (cI, 4000, (.inl (fun _ => 0)))), ((gm 4), .inl (cI, 6, (.inl (fun _ => 0)))), ((gm 5), .inl (cI, 49152, (.inl (fun _ => 0)))), ((gm 6), .inl (cZ, 768, (.inl (fun _ => 0)))), ((gm 168), .inl (cI, 100, (.inl (fun _ => 0)))), ((gm 169), .inl (cI, 100, (.inl (fun _ => 0)))), ((gm 170), .inl (cI, 100, (.inl (fun _ => 0)))), ((gm 171), .inl (cJ, 100, (.inr (.inl (fun _ => 0)))))] H) (hD : va_D A [(x0, .inr (11, (fsX g))), ((g 0), .inl (cB, 4000, (.inl (fun _ => 0)))), ((g 3), .inl (cP, 6, (.inr (.inr (.inr (.inr (fun _ => none))))))), ((g 14), .inr (0, (fs0 tf))), ((g 15), .inr (6, (fs6 tq))), ((g 16), .inr (8, (fs8 tt))), ((g 17), .inl (cI, 300, (.inl (fun _ => 0)))), ((g 18), .inl (cJ, 100, (.inr (.inl (fun _ => 0))))), (m0, .inr (12, (fsM gm))), ((gm 1), .inl (cI, 4000, (.inl (fun _ => 0)))), ((gm 4), .inl (cI, 6, (.inl (fun _ => 0)))), ((gm 5), .inl (cI, 49152, (.inl (fun _ => 0)))), ((gm 6), .inl (cZ, 768, (.inl (fun _ => 0)))), ((gm 168), .inl (cI, 100, (.inl (fun _ => 0)))), ((gm 169), .inl (cI, 100, (.inl (fun _ => 0)))), ((gm 170), .inl (cI, 100, (.inl (fun _ => 0)))), ((gm 171), .inl (cJ, 100, (.inr (.inl (fun _ => 0)))))]) (hS : va_S A s.heap H locs) (ls : Array Slot) (hl : lv_has ls 4 [(3, .int 0), (2, .ref m0), (1, .ref x0), (0, .ref b)]) : W p l e room_1 s m #[Value.ref b] below meth c H locs 147 815844 (lw_Z below #[Value.ref b] s) (F0 m 1450 ls []) := by
  subst hL
  obtain ⟨hx, hb, hr, hml, hown, hts, hX, hbl, hlocks, hgv⟩ := id C0
  have hown : s.vm.findClass RL = some m.cls := hown
  have hbA : ¬ A b := fun h => absurd (hAl b h) (Nat.not_le.mpr hbl)
  refine lv_aload_n hx hb dL_law_1450 rfl (lv_at hl 2 rfl) ?_
  refine lv_aload_n hx hb dL_law_1451 rfl (lv_at hl 3 rfl) ?_
  refine lv_iload_n hx hb dL_law_1452 rfl (lv_at hl 0 rfl) ?_
  refine lv_iconst (v := 1) hx hb dL_law_1453 (by decide) ?_
  refine lv_iadd hx hb dL_law_1454 ?_
  refine lv_topi (fun f_1 ef_1 => ?_)
  obtain rfl : (1 : Int32) = f_1 := (ef_1.trans (by decide)).symm
  refine va_sld hx hb hX hbl hbA hS (vp_in_nI (n := 1) (N := 5) (by decide) (by decide)) dL_law_1455 ?_
  refine lv_aload_n hx hb dL_law_1456 rfl (lv_at hl 3 rfl) ?_
  refine lv_iload_n hx hb dL_law_1457 rfl (lv_at hl 0 rfl) ?_
  refine lv_iconst (v := 2) hx hb dL_law_1458 (by decide) ?_
  refine lv_iadd hx hb dL_law_1459 ?_
  refine lv_topi (fun f_2 ef_2 => ?_)
  obtain rfl : (2 : Int32) = f_2 := (ef_2.trans (by decide)).symm
  refine va_sld hx hb hX hbl hbA hS (vp_in_nI (n := 2) (N := 5) (by decide) (by decide)) dL_law_1460 ?_
  have hPc := hP.sub (ws' := [(x0, .inr (11, (fsX g)))]) [0] rfl
  have hDc := hD.sub (ws' := [(x0, .inr (11, (fsX g)))]) [0] (by decide) rfl
  have hKc := hK
  refine vp_callSi (va_Run.run (va_runV (As := [.int (xs (1 : Int32).toNatClampNeg), .int (xs (2 : Int32).toNatClampNeg)]) (rest := []) ⟨hx, hb, hml, hown, hts⟩ (c_X11_opened l dC dI cI cB cZ cJ cC cP cV cT cO H.size x0 g (xs (1 : Int32).toNatClampNeg) (xs (2 : Int32).toNatClampNeg)) (cwV 2 hts gq_L_law_X11_opened_159 rfl rfl rfl (by decide +kernel) ⟨Nat.le_of_ble_eq_true rfl, Nat.le_of_ble_eq_true rfl⟩) ⟨fun a U g mk q => by obtain ⟨q0, q1, qP, qK, qD⟩ := q; exact ⟨q0, q1, qP, va_K.moved (u := U) (U := U.calling g mk a) (Vm.Alike.refl U.vm) qK, qD⟩, va_recv hKc hPc (ci := 11) (q0 := 0) rfl rfl, fun U hU hW => ⟨rfl, by rw [hU], by rw [hU]; exact hPc, va_K.moved hW.alike hKc, hDc.weaken (fun _ _ _ _ => trivial)⟩⟩ rfl rfl hl.1 rfl (lv_room (Nat.le_of_ble_eq_true rfl)) dL_law_1461 ⟨Nat.le_of_ble_eq_true rfl, Nat.le_of_ble_eq_true rfl⟩)) (fun r_3 hr_3 => ?_)
  obtain rfl : r_3 = (-2) := hr_3
  refine lv_aload_n hx hb dL_law_1464 rfl (lv_at hl 1 rfl) ?_
  refine lv_aload_n hx hb dL_law_1465 rfl (lv_at hl 3 rfl) ?_
  refine lv_iload_n hx hb dL_law_1466 rfl (lv_at hl 0 rfl) ?_
  refine lv_iconst (v := 1) hx hb dL_law_1467 (by decide) ?_
  refine lv_iadd hx hb dL_law_1468 ?_
  refine lv_topi (fun f_4 ef_4 => ?_)
  obtain rfl : (1 : Int32) = f_4 := (ef_4.trans (by decide)).symm
  refine va_sld hx hb hX hbl hbA hS (vp_in_nI (n := 1) (N := 5) (by decide) (by decide)) dL_law_1469 ?_
  refine lv_aload_n hx hb dL_law_1470 rfl (lv_at hl 3 rfl) ?_
  refine lv_iload_n hx hb dL_law_1471 rfl (lv_at hl 0 rfl) ?_
  refine lv_iconst (v := 2) hx hb dL_law_1472 (by decide) ?_
  refine lv_iadd hx hb dL_law_1473 ?_
  refine lv_topi (fun f_5 ef_5 => ?_)
  obtain rfl : (2 : Int32) = f_5 := (ef_5.trans (by decide)).symm
  refine va_sld hx hb hX hbl hbA hS (vp_in_nI (n := 2) (N := 5) (by decide) (by decide)) dL_law_1474 ?_
  have hPc := hP.sub (ws' := [(m0, .inr (12, (fsM gm)))]) [8] rfl
  have hDc := hD.sub (ws' := [(m0, .inr (12, (fsM gm)))]) [8] (by decide) rfl
  have hKc := hK
  refine vp_callSi (va_Run.run (va_runV (As := [.int (xs (1 : Int32).toNatClampNeg), .int (xs (2 : Int32).toNatClampNeg)]) (rest := [.int (-2)]) ⟨hx, hb, hml, hown, hts⟩ (c_X12_opened l dC dI cI cB cZ cJ cC cP cV cT cO H.size m0 gm (xs (1 : Int32).toNatClampNeg) (xs (2 : Int32).toNatClampNeg)) (cwV 2 hts gq_L_law_X12_opened_162 rfl rfl rfl (by decide +kernel) ⟨Nat.le_of_ble_eq_true rfl, Nat.le_of_ble_eq_true rfl⟩) ⟨fun a U g mk q => by obtain ⟨q0, q1, qP, qK, qD⟩ := q; exact ⟨q0, q1, qP, va_K.moved (u := U) (U := U.calling g mk a) (Vm.Alike.refl U.vm) qK, qD⟩, va_recv hKc hPc (ci := 12) (q0 := 0) rfl rfl, fun U hU hW => ⟨rfl, by rw [hU], by rw [hU]; exact hPc, va_K.moved hW.alike hKc, hDc.weaken (fun _ _ _ _ => trivial)⟩⟩ rfl rfl hl.1 rfl (lv_room (Nat.le_of_ble_eq_true rfl)) dL_law_1475 ⟨Nat.le_of_ble_eq_true rfl, Nat.le_of_ble_eq_true rfl⟩)) (fun r_6 hr_6 => ?_)
  obtain rfl : r_6 = (-2) := hr_6
  refine lv_icmp_eq (tgt := 1979) hx hb dL_law_1478 (by decide) (fun _ => ?_) (fun c_7 => absurd (by decide) c_7)
  exact law_tail l C0 hA hAl rfl hS (Nat.le_of_ble_eq_true rfl) (Nat.le_of_ble_eq_true rfl) x0 m0 ls (lv_sub hl [0, 1, 2, 3] rfl)
set_option maxHeartbeats 40000000 in
set_option maxRecDepth 100000 in
theorem law_case_35 {p : Program} {e : Env} {s : State} {m : MethodId} {below : List Frame} {meth : Method} {c : Code} (l : Launch) {b L : Nat} {xs : Nat → Int32} (C0 : lw_At p s m meth c b L xs) {A : Nat → Prop} (hA : ∀ q : Nat, s.heap.size ≤ q → A q) (hAl : ∀ q : Nat, A q → s.heap.size ≤ q) (hL : L = 5) (dC : Nat → ClassId) (dI : Nat → Nat → Nat) (cI cB cZ cJ cC cP cV cT cO : ClassId) (x0 m0 : Nat) (g tf tq tt gm : Nat → Nat) (hK : va_K (dC, dI) vwCl [(cI, .int), (cB, .byte), (cZ, .boolean), (cJ, .long), (cC, .char), (cP, .object "DiskEvidence$Picture"), (cV, .object "DiskEvidence$Volume"), (cT, .object "DiskEvidence$Tree"), (cO, .object "DiskEvidence$Opening")] s) {H : Heap} {locs : List Loc} (hP : va_P (dC, dI) vwCl [(x0, .inr (11, (fsX g))), ((g 0), .inl (cB, 4000, (.inl (fun _ => 0)))), ((g 3), .inl (cP, 6, (.inr (.inr (.inr (.inr (fun _ => none))))))), ((g 14), .inr (0, (fs0 tf))), ((g 15), .inr (6, (fs6 tq))), ((g 16), .inr (8, (fs8 tt))), ((g 17), .inl (cI, 300, (.inl (fun _ => 0)))), ((g 18), .inl (cJ, 100, (.inr (.inl (fun _ => 0))))), (m0, .inr (12, (fsM gm))), ((gm 1), .inl (cI, 4000, (.inl (fun _ => 0)))), ((gm 4), .inl (cI, 6, (.inl (fun _ => 0)))), ((gm 5), .inl (cI, 49152, (.inl (fun _ => 0)))), ((gm 6), .inl (cZ, 768, (.inl (fun _ => 0)))), ((gm 168), .inl (cI, 100, (.inl (fun _ => 0)))), ((gm 169), .inl (cI, 100, (.inl (fun _ => 0)))), ((gm 170), .inl (cI, 100, (.inl (fun _ => 0)))), ((gm 171), .inl (cJ, 100, (.inr (.inl (fun _ => 0)))))] H) (hD : va_D A [(x0, .inr (11, (fsX g))), ((g 0), .inl (cB, 4000, (.inl (fun _ => 0)))), ((g 3), .inl (cP, 6, (.inr (.inr (.inr (.inr (fun _ => none))))))), ((g 14), .inr (0, (fs0 tf))), ((g 15), .inr (6, (fs6 tq))), ((g 16), .inr (8, (fs8 tt))), ((g 17), .inl (cI, 300, (.inl (fun _ => 0)))), ((g 18), .inl (cJ, 100, (.inr (.inl (fun _ => 0))))), (m0, .inr (12, (fsM gm))), ((gm 1), .inl (cI, 4000, (.inl (fun _ => 0)))), ((gm 4), .inl (cI, 6, (.inl (fun _ => 0)))), ((gm 5), .inl (cI, 49152, (.inl (fun _ => 0)))), ((gm 6), .inl (cZ, 768, (.inl (fun _ => 0)))), ((gm 168), .inl (cI, 100, (.inl (fun _ => 0)))), ((gm 169), .inl (cI, 100, (.inl (fun _ => 0)))), ((gm 170), .inl (cI, 100, (.inl (fun _ => 0)))), ((gm 171), .inl (cJ, 100, (.inr (.inl (fun _ => 0)))))]) (hS : va_S A s.heap H locs) (ls : Array Slot) (hl : lv_has ls 4 [(3, .int 0), (2, .ref m0), (1, .ref x0), (0, .ref b)]) : W p l e room_1 s m #[Value.ref b] below meth c H locs 147 815844 (lw_Z below #[Value.ref b] s) (F0 m 1483 ls []) := by
  subst hL
  obtain ⟨hx, hb, hr, hml, hown, hts, hX, hbl, hlocks, hgv⟩ := id C0
  have hown : s.vm.findClass RL = some m.cls := hown
  have hbA : ¬ A b := fun h => absurd (hAl b h) (Nat.not_le.mpr hbl)
  refine lv_aload_n hx hb dL_law_1483 rfl (lv_at hl 2 rfl) ?_
  refine lv_aload_n hx hb dL_law_1484 rfl (lv_at hl 3 rfl) ?_
  refine lv_iload_n hx hb dL_law_1485 rfl (lv_at hl 0 rfl) ?_
  refine lv_iconst (v := 1) hx hb dL_law_1486 (by decide) ?_
  refine lv_iadd hx hb dL_law_1487 ?_
  refine lv_topi (fun f_1 ef_1 => ?_)
  obtain rfl : (1 : Int32) = f_1 := (ef_1.trans (by decide)).symm
  refine va_sld hx hb hX hbl hbA hS (vp_in_nI (n := 1) (N := 5) (by decide) (by decide)) dL_law_1488 ?_
  refine lv_aload_n hx hb dL_law_1489 rfl (lv_at hl 3 rfl) ?_
  refine lv_iload_n hx hb dL_law_1490 rfl (lv_at hl 0 rfl) ?_
  refine lv_iconst (v := 2) hx hb dL_law_1491 (by decide) ?_
  refine lv_iadd hx hb dL_law_1492 ?_
  refine lv_topi (fun f_2 ef_2 => ?_)
  obtain rfl : (2 : Int32) = f_2 := (ef_2.trans (by decide)).symm
  refine va_sld hx hb hX hbl hbA hS (vp_in_nI (n := 2) (N := 5) (by decide) (by decide)) dL_law_1493 ?_
  have hPc := hP.sub (ws' := [(x0, .inr (11, (fsX g)))]) [0] rfl
  have hDc := hD.sub (ws' := [(x0, .inr (11, (fsX g)))]) [0] (by decide) rfl
  have hKc := hK
  refine vp_callSi (va_Run.run (va_runV (As := [.int (xs (1 : Int32).toNatClampNeg), .int (xs (2 : Int32).toNatClampNeg)]) (rest := []) ⟨hx, hb, hml, hown, hts⟩ (c_X11_inside l dC dI cI cB cZ cJ cC cP cV cT cO H.size x0 g (xs (1 : Int32).toNatClampNeg) (xs (2 : Int32).toNatClampNeg)) (cwV 2 hts gq_L_law_X11_inside_163 rfl rfl rfl (by decide +kernel) ⟨Nat.le_of_ble_eq_true rfl, Nat.le_of_ble_eq_true rfl⟩) ⟨fun a U g mk q => by obtain ⟨q0, q1, qP, qK, qD⟩ := q; exact ⟨q0, q1, qP, va_K.moved (u := U) (U := U.calling g mk a) (Vm.Alike.refl U.vm) qK, qD⟩, va_recv hKc hPc (ci := 11) (q0 := 0) rfl rfl, fun U hU hW => ⟨rfl, by rw [hU], by rw [hU]; exact hPc, va_K.moved hW.alike hKc, hDc.weaken (fun _ _ _ _ => trivial)⟩⟩ rfl rfl hl.1 rfl (lv_room (Nat.le_of_ble_eq_true rfl)) dL_law_1494 ⟨Nat.le_of_ble_eq_true rfl, Nat.le_of_ble_eq_true rfl⟩)) (fun r_3 hr_3 => ?_)
  obtain rfl : r_3 = (-2) := hr_3
  refine lv_aload_n hx hb dL_law_1497 rfl (lv_at hl 1 rfl) ?_
  refine lv_aload_n hx hb dL_law_1498 rfl (lv_at hl 3 rfl) ?_
  refine lv_iload_n hx hb dL_law_1499 rfl (lv_at hl 0 rfl) ?_
  refine lv_iconst (v := 1) hx hb dL_law_1500 (by decide) ?_
  refine lv_iadd hx hb dL_law_1501 ?_
  refine lv_topi (fun f_4 ef_4 => ?_)
  obtain rfl : (1 : Int32) = f_4 := (ef_4.trans (by decide)).symm
  refine va_sld hx hb hX hbl hbA hS (vp_in_nI (n := 1) (N := 5) (by decide) (by decide)) dL_law_1502 ?_
  refine lv_aload_n hx hb dL_law_1503 rfl (lv_at hl 3 rfl) ?_
  refine lv_iload_n hx hb dL_law_1504 rfl (lv_at hl 0 rfl) ?_
  refine lv_iconst (v := 2) hx hb dL_law_1505 (by decide) ?_
  refine lv_iadd hx hb dL_law_1506 ?_
  refine lv_topi (fun f_5 ef_5 => ?_)
  obtain rfl : (2 : Int32) = f_5 := (ef_5.trans (by decide)).symm
  refine va_sld hx hb hX hbl hbA hS (vp_in_nI (n := 2) (N := 5) (by decide) (by decide)) dL_law_1507 ?_
  have hPc := hP.sub (ws' := [(m0, .inr (12, (fsM gm)))]) [8] rfl
  have hDc := hD.sub (ws' := [(m0, .inr (12, (fsM gm)))]) [8] (by decide) rfl
  have hKc := hK
  refine vp_callSi (va_Run.run (va_runV (As := [.int (xs (1 : Int32).toNatClampNeg), .int (xs (2 : Int32).toNatClampNeg)]) (rest := [.int (-2)]) ⟨hx, hb, hml, hown, hts⟩ (c_X12_inside l dC dI cI cB cZ cJ cC cP cV cT cO H.size m0 gm (xs (1 : Int32).toNatClampNeg) (xs (2 : Int32).toNatClampNeg)) (cwV 2 hts gq_L_law_X12_inside_166 rfl rfl rfl (by decide +kernel) ⟨Nat.le_of_ble_eq_true rfl, Nat.le_of_ble_eq_true rfl⟩) ⟨fun a U g mk q => by obtain ⟨q0, q1, qP, qK, qD⟩ := q; exact ⟨q0, q1, qP, va_K.moved (u := U) (U := U.calling g mk a) (Vm.Alike.refl U.vm) qK, qD⟩, va_recv hKc hPc (ci := 12) (q0 := 0) rfl rfl, fun U hU hW => ⟨rfl, by rw [hU], by rw [hU]; exact hPc, va_K.moved hW.alike hKc, hDc.weaken (fun _ _ _ _ => trivial)⟩⟩ rfl rfl hl.1 rfl (lv_room (Nat.le_of_ble_eq_true rfl)) dL_law_1508 ⟨Nat.le_of_ble_eq_true rfl, Nat.le_of_ble_eq_true rfl⟩)) (fun r_6 hr_6 => ?_)
  obtain rfl : r_6 = (-2) := hr_6
  refine lv_icmp_eq (tgt := 1979) hx hb dL_law_1511 (by decide) (fun _ => ?_) (fun c_7 => absurd (by decide) c_7)
  exact law_tail l C0 hA hAl rfl hS (Nat.le_of_ble_eq_true rfl) (Nat.le_of_ble_eq_true rfl) x0 m0 ls (lv_sub hl [0, 1, 2, 3] rfl)
set_option maxHeartbeats 40000000 in
set_option maxRecDepth 100000 in
theorem law_case_36 {p : Program} {e : Env} {s : State} {m : MethodId} {below : List Frame} {meth : Method} {c : Code} (l : Launch) {b L : Nat} {xs : Nat → Int32} (C0 : lw_At p s m meth c b L xs) {A : Nat → Prop} (hA : ∀ q : Nat, s.heap.size ≤ q → A q) (hAl : ∀ q : Nat, A q → s.heap.size ≤ q) (hL : L = 5) (dC : Nat → ClassId) (dI : Nat → Nat → Nat) (cI cB cZ cJ cC cP cV cT cO : ClassId) (x0 m0 : Nat) (g tf tq tt gm : Nat → Nat) (hK : va_K (dC, dI) vwCl [(cI, .int), (cB, .byte), (cZ, .boolean), (cJ, .long), (cC, .char), (cP, .object "DiskEvidence$Picture"), (cV, .object "DiskEvidence$Volume"), (cT, .object "DiskEvidence$Tree"), (cO, .object "DiskEvidence$Opening")] s) {H : Heap} {locs : List Loc} (hP : va_P (dC, dI) vwCl [(x0, .inr (11, (fsX g))), ((g 0), .inl (cB, 4000, (.inl (fun _ => 0)))), ((g 3), .inl (cP, 6, (.inr (.inr (.inr (.inr (fun _ => none))))))), ((g 14), .inr (0, (fs0 tf))), ((g 15), .inr (6, (fs6 tq))), ((g 16), .inr (8, (fs8 tt))), ((g 17), .inl (cI, 300, (.inl (fun _ => 0)))), ((g 18), .inl (cJ, 100, (.inr (.inl (fun _ => 0))))), (m0, .inr (12, (fsM gm))), ((gm 1), .inl (cI, 4000, (.inl (fun _ => 0)))), ((gm 4), .inl (cI, 6, (.inl (fun _ => 0)))), ((gm 5), .inl (cI, 49152, (.inl (fun _ => 0)))), ((gm 6), .inl (cZ, 768, (.inl (fun _ => 0)))), ((gm 168), .inl (cI, 100, (.inl (fun _ => 0)))), ((gm 169), .inl (cI, 100, (.inl (fun _ => 0)))), ((gm 170), .inl (cI, 100, (.inl (fun _ => 0)))), ((gm 171), .inl (cJ, 100, (.inr (.inl (fun _ => 0)))))] H) (hD : va_D A [(x0, .inr (11, (fsX g))), ((g 0), .inl (cB, 4000, (.inl (fun _ => 0)))), ((g 3), .inl (cP, 6, (.inr (.inr (.inr (.inr (fun _ => none))))))), ((g 14), .inr (0, (fs0 tf))), ((g 15), .inr (6, (fs6 tq))), ((g 16), .inr (8, (fs8 tt))), ((g 17), .inl (cI, 300, (.inl (fun _ => 0)))), ((g 18), .inl (cJ, 100, (.inr (.inl (fun _ => 0))))), (m0, .inr (12, (fsM gm))), ((gm 1), .inl (cI, 4000, (.inl (fun _ => 0)))), ((gm 4), .inl (cI, 6, (.inl (fun _ => 0)))), ((gm 5), .inl (cI, 49152, (.inl (fun _ => 0)))), ((gm 6), .inl (cZ, 768, (.inl (fun _ => 0)))), ((gm 168), .inl (cI, 100, (.inl (fun _ => 0)))), ((gm 169), .inl (cI, 100, (.inl (fun _ => 0)))), ((gm 170), .inl (cI, 100, (.inl (fun _ => 0)))), ((gm 171), .inl (cJ, 100, (.inr (.inl (fun _ => 0)))))]) (hS : va_S A s.heap H locs) (ls : Array Slot) (hl : lv_has ls 4 [(3, .int 0), (2, .ref m0), (1, .ref x0), (0, .ref b)]) : W p l e room_1 s m #[Value.ref b] below meth c H locs 147 815844 (lw_Z below #[Value.ref b] s) (F0 m 1516 ls []) := by
  subst hL
  obtain ⟨hx, hb, hr, hml, hown, hts, hX, hbl, hlocks, hgv⟩ := id C0
  have hown : s.vm.findClass RL = some m.cls := hown
  have hbA : ¬ A b := fun h => absurd (hAl b h) (Nat.not_le.mpr hbl)
  refine lv_aload_n hx hb dL_law_1516 rfl (lv_at hl 2 rfl) ?_
  refine lv_aload_n hx hb dL_law_1517 rfl (lv_at hl 3 rfl) ?_
  refine lv_iload_n hx hb dL_law_1518 rfl (lv_at hl 0 rfl) ?_
  refine lv_iconst (v := 1) hx hb dL_law_1519 (by decide) ?_
  refine lv_iadd hx hb dL_law_1520 ?_
  refine lv_topi (fun f_1 ef_1 => ?_)
  obtain rfl : (1 : Int32) = f_1 := (ef_1.trans (by decide)).symm
  refine va_sld hx hb hX hbl hbA hS (vp_in_nI (n := 1) (N := 5) (by decide) (by decide)) dL_law_1521 ?_
  have hPc := hP.sub (ws' := [(x0, .inr (11, (fsX g)))]) [0] rfl
  have hDc := hD.sub (ws' := [(x0, .inr (11, (fsX g)))]) [0] (by decide) rfl
  have hKc := hK
  refine vp_callSi (va_Run.run (va_runV (As := [.int (xs (1 : Int32).toNatClampNeg)]) (rest := []) ⟨hx, hb, hml, hown, hts⟩ (c_X11_word l dC dI cI cB cZ cJ cC cP cV cT cO H.size x0 g (xs (1 : Int32).toNatClampNeg)) (cwV 1 hts gq_L_law_X11_word_167 rfl rfl rfl (by decide +kernel) ⟨Nat.le_of_ble_eq_true rfl, Nat.le_of_ble_eq_true rfl⟩) ⟨fun a U g mk q => by obtain ⟨q0, q1, qP, qK, qD⟩ := q; exact ⟨q0, q1, qP, va_K.moved (u := U) (U := U.calling g mk a) (Vm.Alike.refl U.vm) qK, qD⟩, va_recv hKc hPc (ci := 11) (q0 := 0) rfl rfl, fun U hU hW => ⟨rfl, by rw [hU], by rw [hU]; exact hPc, va_K.moved hW.alike hKc, hDc.weaken (fun _ _ _ _ => trivial)⟩⟩ rfl rfl hl.1 rfl (lv_room (Nat.le_of_ble_eq_true rfl)) dL_law_1522 ⟨Nat.le_of_ble_eq_true rfl, Nat.le_of_ble_eq_true rfl⟩)) (fun r_2 hr_2 => ?_)
  obtain rfl : r_2 = (-2) := hr_2
  refine lv_aload_n hx hb dL_law_1525 rfl (lv_at hl 1 rfl) ?_
  refine lv_aload_n hx hb dL_law_1526 rfl (lv_at hl 3 rfl) ?_
  refine lv_iload_n hx hb dL_law_1527 rfl (lv_at hl 0 rfl) ?_
  refine lv_iconst (v := 1) hx hb dL_law_1528 (by decide) ?_
  refine lv_iadd hx hb dL_law_1529 ?_
  refine lv_topi (fun f_3 ef_3 => ?_)
  obtain rfl : (1 : Int32) = f_3 := (ef_3.trans (by decide)).symm
  refine va_sld hx hb hX hbl hbA hS (vp_in_nI (n := 1) (N := 5) (by decide) (by decide)) dL_law_1530 ?_
  have hPc := hP.sub (ws' := [(m0, .inr (12, (fsM gm)))]) [8] rfl
  have hDc := hD.sub (ws' := [(m0, .inr (12, (fsM gm)))]) [8] (by decide) rfl
  have hKc := hK
  refine vp_callSi (va_Run.run (va_runV (As := [.int (xs (1 : Int32).toNatClampNeg)]) (rest := [.int (-2)]) ⟨hx, hb, hml, hown, hts⟩ (c_X12_word l dC dI cI cB cZ cJ cC cP cV cT cO H.size m0 gm (xs (1 : Int32).toNatClampNeg)) (cwV 1 hts gq_L_law_X12_word_170 rfl rfl rfl (by decide +kernel) ⟨Nat.le_of_ble_eq_true rfl, Nat.le_of_ble_eq_true rfl⟩) ⟨fun a U g mk q => by obtain ⟨q0, q1, qP, qK, qD⟩ := q; exact ⟨q0, q1, qP, va_K.moved (u := U) (U := U.calling g mk a) (Vm.Alike.refl U.vm) qK, qD⟩, va_recv hKc hPc (ci := 12) (q0 := 0) rfl rfl, fun U hU hW => ⟨rfl, by rw [hU], by rw [hU]; exact hPc, va_K.moved hW.alike hKc, hDc.weaken (fun _ _ _ _ => trivial)⟩⟩ rfl rfl hl.1 rfl (lv_room (Nat.le_of_ble_eq_true rfl)) dL_law_1531 ⟨Nat.le_of_ble_eq_true rfl, Nat.le_of_ble_eq_true rfl⟩)) (fun r_4 hr_4 => ?_)
  obtain rfl : r_4 = (-2) := hr_4
  refine lv_icmp_eq (tgt := 1979) hx hb dL_law_1534 (by decide) (fun _ => ?_) (fun c_5 => absurd (by decide) c_5)
  exact law_tail l C0 hA hAl rfl hS (Nat.le_of_ble_eq_true rfl) (Nat.le_of_ble_eq_true rfl) x0 m0 ls (lv_sub hl [0, 1, 2, 3] rfl)
set_option maxHeartbeats 40000000 in
set_option maxRecDepth 100000 in
theorem law_case_37 {p : Program} {e : Env} {s : State} {m : MethodId} {below : List Frame} {meth : Method} {c : Code} (l : Launch) {b L : Nat} {xs : Nat → Int32} (C0 : lw_At p s m meth c b L xs) {A : Nat → Prop} (hA : ∀ q : Nat, s.heap.size ≤ q → A q) (hAl : ∀ q : Nat, A q → s.heap.size ≤ q) (hL : L = 5) (dC : Nat → ClassId) (dI : Nat → Nat → Nat) (cI cB cZ cJ cC cP cV cT cO : ClassId) (x0 m0 : Nat) (g tf tq tt gm : Nat → Nat) (hK : va_K (dC, dI) vwCl [(cI, .int), (cB, .byte), (cZ, .boolean), (cJ, .long), (cC, .char), (cP, .object "DiskEvidence$Picture"), (cV, .object "DiskEvidence$Volume"), (cT, .object "DiskEvidence$Tree"), (cO, .object "DiskEvidence$Opening")] s) {H : Heap} {locs : List Loc} (hP : va_P (dC, dI) vwCl [(x0, .inr (11, (fsX g))), ((g 0), .inl (cB, 4000, (.inl (fun _ => 0)))), ((g 3), .inl (cP, 6, (.inr (.inr (.inr (.inr (fun _ => none))))))), ((g 14), .inr (0, (fs0 tf))), ((g 15), .inr (6, (fs6 tq))), ((g 16), .inr (8, (fs8 tt))), ((g 17), .inl (cI, 300, (.inl (fun _ => 0)))), ((g 18), .inl (cJ, 100, (.inr (.inl (fun _ => 0))))), (m0, .inr (12, (fsM gm))), ((gm 1), .inl (cI, 4000, (.inl (fun _ => 0)))), ((gm 4), .inl (cI, 6, (.inl (fun _ => 0)))), ((gm 5), .inl (cI, 49152, (.inl (fun _ => 0)))), ((gm 6), .inl (cZ, 768, (.inl (fun _ => 0)))), ((gm 168), .inl (cI, 100, (.inl (fun _ => 0)))), ((gm 169), .inl (cI, 100, (.inl (fun _ => 0)))), ((gm 170), .inl (cI, 100, (.inl (fun _ => 0)))), ((gm 171), .inl (cJ, 100, (.inr (.inl (fun _ => 0)))))] H) (hD : va_D A [(x0, .inr (11, (fsX g))), ((g 0), .inl (cB, 4000, (.inl (fun _ => 0)))), ((g 3), .inl (cP, 6, (.inr (.inr (.inr (.inr (fun _ => none))))))), ((g 14), .inr (0, (fs0 tf))), ((g 15), .inr (6, (fs6 tq))), ((g 16), .inr (8, (fs8 tt))), ((g 17), .inl (cI, 300, (.inl (fun _ => 0)))), ((g 18), .inl (cJ, 100, (.inr (.inl (fun _ => 0))))), (m0, .inr (12, (fsM gm))), ((gm 1), .inl (cI, 4000, (.inl (fun _ => 0)))), ((gm 4), .inl (cI, 6, (.inl (fun _ => 0)))), ((gm 5), .inl (cI, 49152, (.inl (fun _ => 0)))), ((gm 6), .inl (cZ, 768, (.inl (fun _ => 0)))), ((gm 168), .inl (cI, 100, (.inl (fun _ => 0)))), ((gm 169), .inl (cI, 100, (.inl (fun _ => 0)))), ((gm 170), .inl (cI, 100, (.inl (fun _ => 0)))), ((gm 171), .inl (cJ, 100, (.inr (.inl (fun _ => 0)))))]) (hS : va_S A s.heap H locs) (ls : Array Slot) (hl : lv_has ls 4 [(3, .int 0), (2, .ref m0), (1, .ref x0), (0, .ref b)]) : W p l e room_1 s m #[Value.ref b] below meth c H locs 147 815844 (lw_Z below #[Value.ref b] s) (F0 m 1539 ls []) := by
  subst hL
  obtain ⟨hx, hb, hr, hml, hown, hts, hX, hbl, hlocks, hgv⟩ := id C0
  have hown : s.vm.findClass RL = some m.cls := hown
  have hbA : ¬ A b := fun h => absurd (hAl b h) (Nat.not_le.mpr hbl)
  refine lv_aload_n hx hb dL_law_1539 rfl (lv_at hl 2 rfl) ?_
  refine lv_aload_n hx hb dL_law_1540 rfl (lv_at hl 3 rfl) ?_
  refine lv_iload_n hx hb dL_law_1541 rfl (lv_at hl 0 rfl) ?_
  refine lv_iconst (v := 1) hx hb dL_law_1542 (by decide) ?_
  refine lv_iadd hx hb dL_law_1543 ?_
  refine lv_topi (fun f_1 ef_1 => ?_)
  obtain rfl : (1 : Int32) = f_1 := (ef_1.trans (by decide)).symm
  refine va_sld hx hb hX hbl hbA hS (vp_in_nI (n := 1) (N := 5) (by decide) (by decide)) dL_law_1544 ?_
  have hPc := hP.sub (ws' := [(x0, .inr (11, (fsX g)))]) [0] rfl
  have hDc := hD.sub (ws' := [(x0, .inr (11, (fsX g)))]) [0] (by decide) rfl
  have hKc := hK
  refine vp_callSi (va_Run.run (va_runV (As := [.int (xs (1 : Int32).toNatClampNeg)]) (rest := []) ⟨hx, hb, hml, hown, hts⟩ (c_X11_pattern l dC dI cI cB cZ cJ cC cP cV cT cO H.size x0 g (xs (1 : Int32).toNatClampNeg)) (cwV 1 hts gq_L_law_X11_pattern_171 rfl rfl rfl (by decide +kernel) ⟨Nat.le_of_ble_eq_true rfl, Nat.le_of_ble_eq_true rfl⟩) ⟨fun a U g mk q => by obtain ⟨q0, q1, qP, qK, qD⟩ := q; exact ⟨q0, q1, qP, va_K.moved (u := U) (U := U.calling g mk a) (Vm.Alike.refl U.vm) qK, qD⟩, va_recv hKc hPc (ci := 11) (q0 := 0) rfl rfl, fun U hU hW => ⟨rfl, by rw [hU], by rw [hU]; exact hPc, va_K.moved hW.alike hKc, hDc.weaken (fun _ _ _ _ => trivial)⟩⟩ rfl rfl hl.1 rfl (lv_room (Nat.le_of_ble_eq_true rfl)) dL_law_1545 ⟨Nat.le_of_ble_eq_true rfl, Nat.le_of_ble_eq_true rfl⟩)) (fun r_2 hr_2 => ?_)
  obtain rfl : r_2 = (-2) := hr_2
  refine lv_aload_n hx hb dL_law_1548 rfl (lv_at hl 1 rfl) ?_
  refine lv_aload_n hx hb dL_law_1549 rfl (lv_at hl 3 rfl) ?_
  refine lv_iload_n hx hb dL_law_1550 rfl (lv_at hl 0 rfl) ?_
  refine lv_iconst (v := 1) hx hb dL_law_1551 (by decide) ?_
  refine lv_iadd hx hb dL_law_1552 ?_
  refine lv_topi (fun f_3 ef_3 => ?_)
  obtain rfl : (1 : Int32) = f_3 := (ef_3.trans (by decide)).symm
  refine va_sld hx hb hX hbl hbA hS (vp_in_nI (n := 1) (N := 5) (by decide) (by decide)) dL_law_1553 ?_
  have hPc := hP.sub (ws' := [(m0, .inr (12, (fsM gm)))]) [8] rfl
  have hDc := hD.sub (ws' := [(m0, .inr (12, (fsM gm)))]) [8] (by decide) rfl
  have hKc := hK
  refine vp_callSi (va_Run.run (va_runV (As := [.int (xs (1 : Int32).toNatClampNeg)]) (rest := [.int (-2)]) ⟨hx, hb, hml, hown, hts⟩ (c_X12_pattern l dC dI cI cB cZ cJ cC cP cV cT cO H.size m0 gm (xs (1 : Int32).toNatClampNeg)) (cwV 1 hts gq_L_law_X12_pattern_174 rfl rfl rfl (by decide +kernel) ⟨Nat.le_of_ble_eq_true rfl, Nat.le_of_ble_eq_true rfl⟩) ⟨fun a U g mk q => by obtain ⟨q0, q1, qP, qK, qD⟩ := q; exact ⟨q0, q1, qP, va_K.moved (u := U) (U := U.calling g mk a) (Vm.Alike.refl U.vm) qK, qD⟩, va_recv hKc hPc (ci := 12) (q0 := 0) rfl rfl, fun U hU hW => ⟨rfl, by rw [hU], by rw [hU]; exact hPc, va_K.moved hW.alike hKc, hDc.weaken (fun _ _ _ _ => trivial)⟩⟩ rfl rfl hl.1 rfl (lv_room (Nat.le_of_ble_eq_true rfl)) dL_law_1554 ⟨Nat.le_of_ble_eq_true rfl, Nat.le_of_ble_eq_true rfl⟩)) (fun r_4 hr_4 => ?_)
  obtain rfl : r_4 = (-2) := hr_4
  refine lv_icmp_eq (tgt := 1979) hx hb dL_law_1557 (by decide) (fun _ => ?_) (fun c_5 => absurd (by decide) c_5)
  exact law_tail l C0 hA hAl rfl hS (Nat.le_of_ble_eq_true rfl) (Nat.le_of_ble_eq_true rfl) x0 m0 ls (lv_sub hl [0, 1, 2, 3] rfl)
