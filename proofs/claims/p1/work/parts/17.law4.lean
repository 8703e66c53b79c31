set_option maxHeartbeats 40000000 in
set_option maxRecDepth 100000 in
theorem law_case_52 {p : Program} {e : Env} {s : State} {m : MethodId} {below : List Frame} {meth : Method} {c : Code} (l : Launch) {b L : Nat} {xs : Nat → Int32} (C0 : lw_At p s m meth c b L xs) {A : Nat → Prop} (hA : ∀ q : Nat, s.heap.size ≤ q → A q) (hAl : ∀ q : Nat, A q → s.heap.size ≤ q) (hL : L = 5) (dC : Nat → ClassId) (dI : Nat → Nat → Nat) (cI cB cZ cJ cC cP cV cT cO : ClassId) (x0 m0 : Nat) (g tf tq tt gm : Nat → Nat) (hK : va_K (dC, dI) vwCl [(cI, .int), (cB, .byte), (cZ, .boolean), (cJ, .long), (cC, .char), (cP, .object "DiskEvidence$Picture"), (cV, .object "DiskEvidence$Volume"), (cT, .object "DiskEvidence$Tree"), (cO, .object "DiskEvidence$Opening")] s) {H : Heap} {locs : List Loc} (hP : va_P (dC, dI) vwCl [(x0, .inr (11, (fsX g))), ((g 0), .inl (cB, 4000, (.inl (fun _ => 0)))), ((g 3), .inl (cP, 6, (.inr (.inr (.inr (.inr (fun _ => none))))))), ((g 14), .inr (0, (fs0 tf))), ((g 15), .inr (6, (fs6 tq))), ((g 16), .inr (8, (fs8 tt))), ((g 17), .inl (cI, 300, (.inl (fun _ => 0)))), ((g 18), .inl (cJ, 100, (.inr (.inl (fun _ => 0))))), (m0, .inr (12, (fsM gm))), ((gm 1), .inl (cI, 4000, (.inl (fun _ => 0)))), ((gm 4), .inl (cI, 6, (.inl (fun _ => 0)))), ((gm 5), .inl (cI, 49152, (.inl (fun _ => 0)))), ((gm 6), .inl (cZ, 768, (.inl (fun _ => 0)))), ((gm 168), .inl (cI, 100, (.inl (fun _ => 0)))), ((gm 169), .inl (cI, 100, (.inl (fun _ => 0)))), ((gm 170), .inl (cI, 100, (.inl (fun _ => 0)))), ((gm 171), .inl (cJ, 100, (.inr (.inl (fun _ => 0)))))] H) (hD : va_D A [(x0, .inr (11, (fsX g))), ((g 0), .inl (cB, 4000, (.inl (fun _ => 0)))), ((g 3), .inl (cP, 6, (.inr (.inr (.inr (.inr (fun _ => none))))))), ((g 14), .inr (0, (fs0 tf))), ((g 15), .inr (6, (fs6 tq))), ((g 16), .inr (8, (fs8 tt))), ((g 17), .inl (cI, 300, (.inl (fun _ => 0)))), ((g 18), .inl (cJ, 100, (.inr (.inl (fun _ => 0))))), (m0, .inr (12, (fsM gm))), ((gm 1), .inl (cI, 4000, (.inl (fun _ => 0)))), ((gm 4), .inl (cI, 6, (.inl (fun _ => 0)))), ((gm 5), .inl (cI, 49152, (.inl (fun _ => 0)))), ((gm 6), .inl (cZ, 768, (.inl (fun _ => 0)))), ((gm 168), .inl (cI, 100, (.inl (fun _ => 0)))), ((gm 169), .inl (cI, 100, (.inl (fun _ => 0)))), ((gm 170), .inl (cI, 100, (.inl (fun _ => 0)))), ((gm 171), .inl (cJ, 100, (.inr (.inl (fun _ => 0)))))]) (hS : va_S A s.heap H locs) (ls : Array Slot) (hl : lv_has ls 4 [(3, .int 0), (2, .ref m0), (1, .ref x0), (0, .ref b)]) : W p l e room_1 s m #[Value.ref b] below meth c H locs 147 815844 (lw_Z below #[Value.ref b] s) (F0 m 1956 ls []) := by
  subst hL
  obtain ⟨hx, hb, hr, hml, hown, hts, hX, hbl, hlocks, hgv⟩ := id C0
  have hown : s.vm.findClass RL = some m.cls := hown
  have hbA : ¬ A b := fun h => absurd (hAl b h) (Nat.not_le.mpr hbl)
  refine lv_aload_n hx hb dL_law_1956 rfl (lv_at hl 2 rfl) ?_
  refine lv_aload_n hx hb dL_law_1957 rfl (lv_at hl 3 rfl) ?_
  refine lv_iload_n hx hb dL_law_1958 rfl (lv_at hl 0 rfl) ?_
  refine lv_iconst (v := 1) hx hb dL_law_1959 (by decide) ?_
  refine lv_iadd hx hb dL_law_1960 ?_
  refine lv_topi (fun f_1 ef_1 => ?_)
  obtain rfl : (1 : Int32) = f_1 := (ef_1.trans (by decide)).symm
  refine va_sld hx hb hX hbl hbA hS (vp_in_nI (n := 1) (N := 5) (by decide) (by decide)) dL_law_1961 ?_
  have hPc := hP.sub (ws' := [(x0, .inr (11, (fsX g))), ((g 14), .inr (0, (fs0 tf))), ((g 15), .inr (6, (fs6 tq)))]) [0, 3, 4] rfl
  have hDc := hD.sub (ws' := [(x0, .inr (11, (fsX g))), ((g 14), .inr (0, (fs0 tf))), ((g 15), .inr (6, (fs6 tq)))]) [0, 3, 4] (by decide) rfl
  have hKc := hK
  refine vp_callSi (va_Run.run (va_runV (As := [.int (xs (1 : Int32).toNatClampNeg)]) (rest := []) ⟨hx, hb, hml, hown, hts⟩ (c_X11_count l dC dI cI cB cZ cJ cC cP cV cT cO H.size x0 g tf tq (xs (1 : Int32).toNatClampNeg)) (cwV 1 hts gq_L_law_X11_count_233 rfl rfl rfl (by decide +kernel) ⟨Nat.le_of_ble_eq_true rfl, Nat.le_of_ble_eq_true rfl⟩) ⟨fun a U g mk q => by obtain ⟨q0, q1, qP, qK, qD⟩ := q; exact ⟨q0, q1, qP, va_K.moved (u := U) (U := U.calling g mk a) (Vm.Alike.refl U.vm) qK, qD⟩, va_recv hKc hPc (ci := 11) (q0 := 0) rfl rfl, fun U hU hW => ⟨rfl, by rw [hU], by rw [hU]; exact hPc, va_K.moved hW.alike hKc, hDc.weaken (fun _ _ _ _ => trivial)⟩⟩ rfl rfl hl.1 rfl (lv_room (Nat.le_of_ble_eq_true rfl)) dL_law_1962 ⟨Nat.le_of_ble_eq_true rfl, Nat.le_of_ble_eq_true rfl⟩)) (fun r_2 hr_2 => ?_)
  refine lv_aload_n hx hb dL_law_1965 rfl (lv_at hl 1 rfl) ?_
  refine lv_aload_n hx hb dL_law_1966 rfl (lv_at hl 3 rfl) ?_
  refine lv_iload_n hx hb dL_law_1967 rfl (lv_at hl 0 rfl) ?_
  refine lv_iconst (v := 1) hx hb dL_law_1968 (by decide) ?_
  refine lv_iadd hx hb dL_law_1969 ?_
  refine lv_topi (fun f_3 ef_3 => ?_)
  obtain rfl : (1 : Int32) = f_3 := (ef_3.trans (by decide)).symm
  refine va_sld hx hb hX hbl hbA hS (vp_in_nI (n := 1) (N := 5) (by decide) (by decide)) dL_law_1970 ?_
  have hPc := hP.sub (ws' := [(m0, .inr (12, (fsM gm)))]) [8] rfl
  have hDc := hD.sub (ws' := [(m0, .inr (12, (fsM gm)))]) [8] (by decide) rfl
  have hKc := hK
  refine vp_callSi (va_Run.run (va_runV (As := [.int (xs (1 : Int32).toNatClampNeg)]) (rest := [.int r_2]) ⟨hx, hb, hml, hown, hts⟩ (c_X12_count l dC dI cI cB cZ cJ cC cP cV cT cO H.size m0 gm (xs (1 : Int32).toNatClampNeg)) (cwV 1 hts gq_L_law_X12_count_236 rfl rfl rfl (by decide +kernel) ⟨Nat.le_of_ble_eq_true rfl, Nat.le_of_ble_eq_true rfl⟩) ⟨fun a U g mk q => by obtain ⟨q0, q1, qP, qK, qD⟩ := q; exact ⟨q0, q1, qP, va_K.moved (u := U) (U := U.calling g mk a) (Vm.Alike.refl U.vm) qK, qD⟩, va_recv hKc hPc (ci := 12) (q0 := 0) rfl rfl, fun U hU hW => ⟨rfl, by rw [hU], by rw [hU]; exact hPc, va_K.moved hW.alike hKc, hDc.weaken (fun _ _ _ _ => trivial)⟩⟩ rfl rfl hl.1 rfl (lv_room (Nat.le_of_ble_eq_true rfl)) dL_law_1971 ⟨Nat.le_of_ble_eq_true rfl, Nat.le_of_ble_eq_true rfl⟩)) (fun r_4 hr_4 => ?_)
  refine lv_icmp_eq (tgt := 1979) hx hb dL_law_1974 (by decide) (fun _ => ?_) (fun c_5 => absurd (hr_2.trans hr_4.symm) c_5)
  exact law_tail l C0 hA hAl rfl hS (Nat.le_of_ble_eq_true rfl) (Nat.le_of_ble_eq_true rfl) x0 m0 ls (lv_sub hl [0, 1, 2, 3] rfl)
set_option maxHeartbeats 40000000 in
set_option maxRecDepth 100000 in
theorem law_body {p : Program} {e : Env} {s : State} {m : MethodId} {below : List Frame} {meth : Method} {c : Code} (l : Launch) {b L : Nat} {xs : Nat → Int32} (C0 : lw_At p s m meth c b L xs) {A : Nat → Prop} (hA : ∀ q : Nat, s.heap.size ≤ q → A q) (hAl : ∀ q : Nat, A q → s.heap.size ≤ q) (hL : L ≤ 5) (dC : Nat → ClassId) (dI : Nat → Nat → Nat) (cI cB cZ cJ cC cP cV cT cO : ClassId) (x0 m0 : Nat) (g tf tq tt gm : Nat → Nat) (hK : va_K (dC, dI) vwCl [(cI, .int), (cB, .byte), (cZ, .boolean), (cJ, .long), (cC, .char), (cP, .object "DiskEvidence$Picture"), (cV, .object "DiskEvidence$Volume"), (cT, .object "DiskEvidence$Tree"), (cO, .object "DiskEvidence$Opening")] s) {H : Heap} {locs : List Loc} (hP : va_P (dC, dI) vwCl [(x0, .inr (11, (fsX g))), ((g 0), .inl (cB, 4000, (.inl (fun _ => 0)))), ((g 3), .inl (cP, 6, (.inr (.inr (.inr (.inr (fun _ => none))))))), ((g 14), .inr (0, (fs0 tf))), ((g 15), .inr (6, (fs6 tq))), ((g 16), .inr (8, (fs8 tt))), ((g 17), .inl (cI, 300, (.inl (fun _ => 0)))), ((g 18), .inl (cJ, 100, (.inr (.inl (fun _ => 0))))), (m0, .inr (12, (fsM gm))), ((gm 1), .inl (cI, 4000, (.inl (fun _ => 0)))), ((gm 4), .inl (cI, 6, (.inl (fun _ => 0)))), ((gm 5), .inl (cI, 49152, (.inl (fun _ => 0)))), ((gm 6), .inl (cZ, 768, (.inl (fun _ => 0)))), ((gm 168), .inl (cI, 100, (.inl (fun _ => 0)))), ((gm 169), .inl (cI, 100, (.inl (fun _ => 0)))), ((gm 170), .inl (cI, 100, (.inl (fun _ => 0)))), ((gm 171), .inl (cJ, 100, (.inr (.inl (fun _ => 0)))))] H) (hD : va_D A [(x0, .inr (11, (fsX g))), ((g 0), .inl (cB, 4000, (.inl (fun _ => 0)))), ((g 3), .inl (cP, 6, (.inr (.inr (.inr (.inr (fun _ => none))))))), ((g 14), .inr (0, (fs0 tf))), ((g 15), .inr (6, (fs6 tq))), ((g 16), .inr (8, (fs8 tt))), ((g 17), .inl (cI, 300, (.inl (fun _ => 0)))), ((g 18), .inl (cJ, 100, (.inr (.inl (fun _ => 0))))), (m0, .inr (12, (fsM gm))), ((gm 1), .inl (cI, 4000, (.inl (fun _ => 0)))), ((gm 4), .inl (cI, 6, (.inl (fun _ => 0)))), ((gm 5), .inl (cI, 49152, (.inl (fun _ => 0)))), ((gm 6), .inl (cZ, 768, (.inl (fun _ => 0)))), ((gm 168), .inl (cI, 100, (.inl (fun _ => 0)))), ((gm 169), .inl (cI, 100, (.inl (fun _ => 0)))), ((gm 170), .inl (cI, 100, (.inl (fun _ => 0)))), ((gm 171), .inl (cJ, 100, (.inr (.inl (fun _ => 0)))))]) (hS : va_S A s.heap H locs) (ls : Array Slot) (hl : lv_has ls 4 [(3, .int 0), (2, .ref m0), (1, .ref x0), (0, .ref b)]) : W p l e room_1 s m #[Value.ref b] below meth c H locs 147 815844 (lw_Z below #[Value.ref b] s) (F0 m 18 ls []) := by
  obtain ⟨hx, hb, hr, hml, hown, hts, hX, hbl, hlocks, hgv⟩ := id C0
  have hown : s.vm.findClass RL = some m.cls := hown
  have hbA : ¬ A b := fun h => absurd (hAl b h) (Nat.not_le.mpr hbl)
  rcases (show L = 0 ∨ L = 1 ∨ L = 2 ∨ L = 3 ∨ L = 4 ∨ L = 5 by omega) with rfl | rfl | rfl | rfl | rfl | rfl
  · refine lv_iload_n hx hb dL_law_18 rfl (lv_at hl 0 rfl) ?_
    refine lv_aload_n hx hb dL_law_19 rfl (lv_at hl 3 rfl) ?_
    refine va_slen hx hb hX hbl hbA hS dL_law_20 ?_
    refine lv_iconst (v := 5) hx hb dL_law_21 (by decide) ?_
    refine lv_isub hx hb dL_law_22 ?_
    refine lv_topi (fun f_1 ef_1 => ?_)
    obtain rfl : (-5 : Int32) = f_1 := (ef_1.trans (by decide)).symm
    refine lv_icmp_gt (tgt := 1985) hx hb dL_law_23 (by decide) (fun _ => ?_) (fun c_2 => absurd (by decide) c_2)
    refine lv_iconst (v := 1) hx hb dL_law_1985 (by decide) ?_
    refine va_forget (fun q hq => hAl _ (hS.2.2 q hq)) ?_
    refine W.widen (k := 600000) (n := 7302250) (Nat.le_of_ble_eq_true rfl) (Nat.le_of_ble_eq_true rfl) ?_
    exact lw_ret hx hb hr hlocks dL_law_1986
  · refine lv_iload_n hx hb dL_law_18 rfl (lv_at hl 0 rfl) ?_
    refine lv_aload_n hx hb dL_law_19 rfl (lv_at hl 3 rfl) ?_
    refine va_slen hx hb hX hbl hbA hS dL_law_20 ?_
    refine lv_iconst (v := 5) hx hb dL_law_21 (by decide) ?_
    refine lv_isub hx hb dL_law_22 ?_
    refine lv_topi (fun f_3 ef_3 => ?_)
    obtain rfl : (-4 : Int32) = f_3 := (ef_3.trans (by decide)).symm
    refine lv_icmp_gt (tgt := 1985) hx hb dL_law_23 (by decide) (fun _ => ?_) (fun c_4 => absurd (by decide) c_4)
    refine lv_iconst (v := 1) hx hb dL_law_1985 (by decide) ?_
    refine va_forget (fun q hq => hAl _ (hS.2.2 q hq)) ?_
    refine W.widen (k := 600000) (n := 7302250) (Nat.le_of_ble_eq_true rfl) (Nat.le_of_ble_eq_true rfl) ?_
    exact lw_ret hx hb hr hlocks dL_law_1986
  · refine lv_iload_n hx hb dL_law_18 rfl (lv_at hl 0 rfl) ?_
    refine lv_aload_n hx hb dL_law_19 rfl (lv_at hl 3 rfl) ?_
    refine va_slen hx hb hX hbl hbA hS dL_law_20 ?_
    refine lv_iconst (v := 5) hx hb dL_law_21 (by decide) ?_
    refine lv_isub hx hb dL_law_22 ?_
    refine lv_topi (fun f_5 ef_5 => ?_)
    obtain rfl : (-3 : Int32) = f_5 := (ef_5.trans (by decide)).symm
    refine lv_icmp_gt (tgt := 1985) hx hb dL_law_23 (by decide) (fun _ => ?_) (fun c_6 => absurd (by decide) c_6)
    refine lv_iconst (v := 1) hx hb dL_law_1985 (by decide) ?_
    refine va_forget (fun q hq => hAl _ (hS.2.2 q hq)) ?_
    refine W.widen (k := 600000) (n := 7302250) (Nat.le_of_ble_eq_true rfl) (Nat.le_of_ble_eq_true rfl) ?_
    exact lw_ret hx hb hr hlocks dL_law_1986
  · refine lv_iload_n hx hb dL_law_18 rfl (lv_at hl 0 rfl) ?_
    refine lv_aload_n hx hb dL_law_19 rfl (lv_at hl 3 rfl) ?_
    refine va_slen hx hb hX hbl hbA hS dL_law_20 ?_
    refine lv_iconst (v := 5) hx hb dL_law_21 (by decide) ?_
    refine lv_isub hx hb dL_law_22 ?_
    refine lv_topi (fun f_7 ef_7 => ?_)
    obtain rfl : (-2 : Int32) = f_7 := (ef_7.trans (by decide)).symm
    refine lv_icmp_gt (tgt := 1985) hx hb dL_law_23 (by decide) (fun _ => ?_) (fun c_8 => absurd (by decide) c_8)
    refine lv_iconst (v := 1) hx hb dL_law_1985 (by decide) ?_
    refine va_forget (fun q hq => hAl _ (hS.2.2 q hq)) ?_
    refine W.widen (k := 600000) (n := 7302250) (Nat.le_of_ble_eq_true rfl) (Nat.le_of_ble_eq_true rfl) ?_
    exact lw_ret hx hb hr hlocks dL_law_1986
  · refine lv_iload_n hx hb dL_law_18 rfl (lv_at hl 0 rfl) ?_
    refine lv_aload_n hx hb dL_law_19 rfl (lv_at hl 3 rfl) ?_
    refine va_slen hx hb hX hbl hbA hS dL_law_20 ?_
    refine lv_iconst (v := 5) hx hb dL_law_21 (by decide) ?_
    refine lv_isub hx hb dL_law_22 ?_
    refine lv_topi (fun f_9 ef_9 => ?_)
    obtain rfl : (-1 : Int32) = f_9 := (ef_9.trans (by decide)).symm
    refine lv_icmp_gt (tgt := 1985) hx hb dL_law_23 (by decide) (fun _ => ?_) (fun c_10 => absurd (by decide) c_10)
    refine lv_iconst (v := 1) hx hb dL_law_1985 (by decide) ?_
    refine va_forget (fun q hq => hAl _ (hS.2.2 q hq)) ?_
    refine W.widen (k := 600000) (n := 7302250) (Nat.le_of_ble_eq_true rfl) (Nat.le_of_ble_eq_true rfl) ?_
    exact lw_ret hx hb hr hlocks dL_law_1986
  · refine lv_iload_n hx hb dL_law_18 rfl (lv_at hl 0 rfl) ?_
    refine lv_aload_n hx hb dL_law_19 rfl (lv_at hl 3 rfl) ?_
    refine va_slen hx hb hX hbl hbA hS dL_law_20 ?_
    refine lv_iconst (v := 5) hx hb dL_law_21 (by decide) ?_
    refine lv_isub hx hb dL_law_22 ?_
    refine lv_topi (fun f_11 ef_11 => ?_)
    obtain rfl : (0 : Int32) = f_11 := (ef_11.trans (by decide)).symm
    refine lv_icmp_gt (tgt := 1985) hx hb dL_law_23 (by decide) (fun c_12 => absurd c_12 (by decide)) (fun _ => ?_)
    refine lv_aload_n hx hb dL_law_26 rfl (lv_at hl 3 rfl) ?_
    refine lv_iload_n hx hb dL_law_27 rfl (lv_at hl 0 rfl) ?_
    refine va_sld hx hb hX hbl hbA hS (vp_in_nI (n := 0) (N := 5) (by decide) (by decide)) dL_law_28 ?_
    refine lv_bipush (v := 63) hx hb dL_law_29 (by decide) ?_
    refine lv_iand hx hb dL_law_31 ?_
    refine lv_topi (fun f_13 ef_13 => ?_)
    rcases sw_cases 52 f_13 with hsw | ⟨j, hj, hsw⟩
    · refine lv_tableOut (tgt := 1979) hx hb dL_law_32 hsw (by decide) ?_
      exact law_tail l C0 hA hAl rfl hS (Nat.le_of_ble_eq_true rfl) (Nat.le_of_ble_eq_true rfl) x0 m0 ls (lv_sub hl [0, 1, 2, 3] rfl)
    · rcases (show j = 0 ∨ j = 1 ∨ j = 2 ∨ j = 3 ∨ j = 4 ∨ j = 5 ∨ j = 6 ∨ j = 7 ∨ j = 8 ∨ j = 9 ∨ j = 10 ∨ j = 11 ∨ j = 12 ∨ j = 13 ∨ j = 14 ∨ j = 15 ∨ j = 16 ∨ j = 17 ∨ j = 18 ∨ j = 19 ∨ j = 20 ∨ j = 21 ∨ j = 22 ∨ j = 23 ∨ j = 24 ∨ j = 25 ∨ j = 26 ∨ j = 27 ∨ j = 28 ∨ j = 29 ∨ j = 30 ∨ j = 31 ∨ j = 32 ∨ j = 33 ∨ j = 34 ∨ j = 35 ∨ j = 36 ∨ j = 37 ∨ j = 38 ∨ j = 39 ∨ j = 40 ∨ j = 41 ∨ j = 42 ∨ j = 43 ∨ j = 44 ∨ j = 45 ∨ j = 46 ∨ j = 47 ∨ j = 48 ∨ j = 49 ∨ j = 50 ∨ j = 51 ∨ j = 52 by omega) with rfl | rfl | rfl | rfl | rfl | rfl | rfl | rfl | rfl | rfl | rfl | rfl | rfl | rfl | rfl | rfl | rfl | rfl | rfl | rfl | rfl | rfl | rfl | rfl | rfl | rfl | rfl | rfl | rfl | rfl | rfl | rfl | rfl | rfl | rfl | rfl | rfl | rfl | rfl | rfl | rfl | rfl | rfl | rfl | rfl | rfl | rfl | rfl | rfl | rfl | rfl | rfl | rfl
      · obtain rfl : f_13 = 0 := hsw
        refine lv_tableIn (tgt := 260) hx hb dL_law_32 (by decide) (by decide) rfl (by decide) ?_
        exact law_case_0 l C0 hA hAl rfl dC dI cI cB cZ cJ cC cP cV cT cO x0 m0 g tf tq tt gm hK hP hD hS ls hl
      · obtain rfl : f_13 = 1 := hsw
        refine lv_tableIn (tgt := 323) hx hb dL_law_32 (by decide) (by decide) rfl (by decide) ?_
        exact law_case_1 l C0 hA hAl rfl dC dI cI cB cZ cJ cC cP cV cT cO x0 m0 g tf tq tt gm hK hP hD hS ls hl
      · obtain rfl : f_13 = 2 := hsw
        refine lv_tableIn (tgt := 336) hx hb dL_law_32 (by decide) (by decide) rfl (by decide) ?_
        exact law_case_2 l C0 hA hAl rfl dC dI cI cB cZ cJ cC cP cV cT cO x0 m0 g tf tq tt gm hK hP hD hS ls hl
      · obtain rfl : f_13 = 3 := hsw
        refine lv_tableIn (tgt := 359) hx hb dL_law_32 (by decide) (by decide) rfl (by decide) ?_
        exact law_case_3 l C0 hA hAl rfl dC dI cI cB cZ cJ cC cP cV cT cO x0 m0 g tf tq tt gm hK hP hD hS ls hl
      · obtain rfl : f_13 = 4 := hsw
        refine lv_tableIn (tgt := 382) hx hb dL_law_32 (by decide) (by decide) rfl (by decide) ?_
        exact law_case_4 l C0 hA hAl rfl dC dI cI cB cZ cJ cC cP cV cT cO x0 m0 g tf tq tt gm hK hP hD hS ls hl
      · obtain rfl : f_13 = 5 := hsw
        refine lv_tableIn (tgt := 395) hx hb dL_law_32 (by decide) (by decide) rfl (by decide) ?_
        exact law_case_5 l C0 hA hAl rfl dC dI cI cB cZ cJ cC cP cV cT cO x0 m0 g tf tq tt gm hK hP hD hS ls hl
      · obtain rfl : f_13 = 6 := hsw
        refine lv_tableIn (tgt := 418) hx hb dL_law_32 (by decide) (by decide) rfl (by decide) ?_
        exact law_case_6 l C0 hA hAl rfl dC dI cI cB cZ cJ cC cP cV cT cO x0 m0 g tf tq tt gm hK hP hD hS ls hl
      · obtain rfl : f_13 = 7 := hsw
        refine lv_tableIn (tgt := 477) hx hb dL_law_32 (by decide) (by decide) rfl (by decide) ?_
        exact law_case_7 l C0 hA hAl rfl dC dI cI cB cZ cJ cC cP cV cT cO x0 m0 g tf tq tt gm hK hP hD hS ls hl
      · obtain rfl : f_13 = 8 := hsw
        refine lv_tableIn (tgt := 510) hx hb dL_law_32 (by decide) (by decide) rfl (by decide) ?_
        exact law_case_8 l C0 hA hAl rfl dC dI cI cB cZ cJ cC cP cV cT cO x0 m0 g tf tq tt gm hK hP hD hS ls hl
      · obtain rfl : f_13 = 9 := hsw
        refine lv_tableIn (tgt := 553) hx hb dL_law_32 (by decide) (by decide) rfl (by decide) ?_
        exact law_case_9 l C0 hA hAl rfl dC dI cI cB cZ cJ cC cP cV cT cO x0 m0 g tf tq tt gm hK hP hD hS ls hl
      · obtain rfl : f_13 = 10 := hsw
        refine lv_tableIn (tgt := 597) hx hb dL_law_32 (by decide) (by decide) rfl (by decide) ?_
        exact law_case_10 l C0 hA hAl rfl dC dI cI cB cZ cJ cC cP cV cT cO x0 m0 g tf tq tt gm hK hP hD hS ls hl
      · obtain rfl : f_13 = 11 := hsw
        refine lv_tableIn (tgt := 620) hx hb dL_law_32 (by decide) (by decide) rfl (by decide) ?_
        exact law_case_11 l C0 hA hAl rfl dC dI cI cB cZ cJ cC cP cV cT cO x0 m0 g tf tq tt gm hK hP hD hS ls hl
      · obtain rfl : f_13 = 12 := hsw
        refine lv_tableIn (tgt := 663) hx hb dL_law_32 (by decide) (by decide) rfl (by decide) ?_
        exact law_case_12 l C0 hA hAl rfl dC dI cI cB cZ cJ cC cP cV cT cO x0 m0 g tf tq tt gm hK hP hD hS ls hl
      · obtain rfl : f_13 = 13 := hsw
        refine lv_tableIn (tgt := 706) hx hb dL_law_32 (by decide) (by decide) rfl (by decide) ?_
        exact law_case_13 l C0 hA hAl rfl dC dI cI cB cZ cJ cC cP cV cT cO x0 m0 g tf tq tt gm hK hP hD hS ls hl
      · obtain rfl : f_13 = 14 := hsw
        refine lv_tableIn (tgt := 759) hx hb dL_law_32 (by decide) (by decide) rfl (by decide) ?_
        exact law_case_14 l C0 hA hAl rfl dC dI cI cB cZ cJ cC cP cV cT cO x0 m0 g tf tq tt gm hK hP hD hS ls hl
      · obtain rfl : f_13 = 15 := hsw
        refine lv_tableIn (tgt := 782) hx hb dL_law_32 (by decide) (by decide) rfl (by decide) ?_
        exact law_case_15 l C0 hA hAl rfl dC dI cI cB cZ cJ cC cP cV cT cO x0 m0 g tf tq tt gm hK hP hD hS ls hl
      · obtain rfl : f_13 = 16 := hsw
        refine lv_tableIn (tgt := 815) hx hb dL_law_32 (by decide) (by decide) rfl (by decide) ?_
        exact law_case_16 l C0 hA hAl rfl dC dI cI cB cZ cJ cC cP cV cT cO x0 m0 g tf tq tt gm hK hP hD hS ls hl
      · obtain rfl : f_13 = 17 := hsw
        refine lv_tableIn (tgt := 848) hx hb dL_law_32 (by decide) (by decide) rfl (by decide) ?_
        exact law_case_17 l C0 hA hAl rfl dC dI cI cB cZ cJ cC cP cV cT cO x0 m0 g tf tq tt gm hK hP hD hS ls hl
      · obtain rfl : f_13 = 18 := hsw
        refine lv_tableIn (tgt := 891) hx hb dL_law_32 (by decide) (by decide) rfl (by decide) ?_
        exact law_case_18 l C0 hA hAl rfl dC dI cI cB cZ cJ cC cP cV cT cO x0 m0 g tf tq tt gm hK hP hD hS ls hl
      · obtain rfl : f_13 = 19 := hsw
        refine lv_tableIn (tgt := 914) hx hb dL_law_32 (by decide) (by decide) rfl (by decide) ?_
        exact law_case_19 l C0 hA hAl rfl dC dI cI cB cZ cJ cC cP cV cT cO x0 m0 g tf tq tt gm hK hP hD hS ls hl
      · obtain rfl : f_13 = 20 := hsw
        refine lv_tableIn (tgt := 937) hx hb dL_law_32 (by decide) (by decide) rfl (by decide) ?_
        exact law_case_20 l C0 hA hAl rfl dC dI cI cB cZ cJ cC cP cV cT cO x0 m0 g tf tq tt gm hK hP hD hS ls hl
      · obtain rfl : f_13 = 21 := hsw
        refine lv_tableIn (tgt := 960) hx hb dL_law_32 (by decide) (by decide) rfl (by decide) ?_
        exact law_case_21 l C0 hA hAl rfl dC dI cI cB cZ cJ cC cP cV cT cO x0 m0 g tf tq tt gm hK hP hD hS ls hl
      · obtain rfl : f_13 = 22 := hsw
        refine lv_tableIn (tgt := 983) hx hb dL_law_32 (by decide) (by decide) rfl (by decide) ?_
        exact law_case_22 l C0 hA hAl rfl dC dI cI cB cZ cJ cC cP cV cT cO x0 m0 g tf tq tt gm hK hP hD hS ls hl
      · obtain rfl : f_13 = 23 := hsw
        refine lv_tableIn (tgt := 1016) hx hb dL_law_32 (by decide) (by decide) rfl (by decide) ?_
        exact law_case_23 l C0 hA hAl rfl dC dI cI cB cZ cJ cC cP cV cT cO x0 m0 g tf tq tt gm hK hP hD hS ls hl
      · obtain rfl : f_13 = 24 := hsw
        refine lv_tableIn (tgt := 1059) hx hb dL_law_32 (by decide) (by decide) rfl (by decide) ?_
        exact law_case_24 l C0 hA hAl rfl dC dI cI cB cZ cJ cC cP cV cT cO x0 m0 g tf tq tt gm hK hP hD hS ls hl
      · obtain rfl : f_13 = 25 := hsw
        refine lv_tableIn (tgt := 1092) hx hb dL_law_32 (by decide) (by decide) rfl (by decide) ?_
        exact law_case_25 l C0 hA hAl rfl dC dI cI cB cZ cJ cC cP cV cT cO x0 m0 g tf tq tt gm hK hP hD hS ls hl
      · obtain rfl : f_13 = 26 := hsw
        refine lv_tableIn (tgt := 1135) hx hb dL_law_32 (by decide) (by decide) rfl (by decide) ?_
        exact law_case_26 l C0 hA hAl rfl dC dI cI cB cZ cJ cC cP cV cT cO x0 m0 g tf tq tt gm hK hP hD hS ls hl
      · obtain rfl : f_13 = 27 := hsw
        refine lv_tableIn (tgt := 1158) hx hb dL_law_32 (by decide) (by decide) rfl (by decide) ?_
        exact law_case_27 l C0 hA hAl rfl dC dI cI cB cZ cJ cC cP cV cT cO x0 m0 g tf tq tt gm hK hP hD hS ls hl
      · obtain rfl : f_13 = 28 := hsw
        refine lv_tableIn (tgt := 1201) hx hb dL_law_32 (by decide) (by decide) rfl (by decide) ?_
        exact law_case_28 l C0 hA hAl rfl dC dI cI cB cZ cJ cC cP cV cT cO x0 m0 g tf tq tt gm hK hP hD hS ls hl
      · obtain rfl : f_13 = 29 := hsw
        refine lv_tableIn (tgt := 1245) hx hb dL_law_32 (by decide) (by decide) rfl (by decide) ?_
        exact law_case_29 l C0 hA hAl rfl dC dI cI cB cZ cJ cC cP cV cT cO x0 m0 g tf tq tt gm hK hP hD hS ls hl
      · obtain rfl : f_13 = 30 := hsw
        refine lv_tableIn (tgt := 1288) hx hb dL_law_32 (by decide) (by decide) rfl (by decide) ?_
        exact law_case_30 l C0 hA hAl rfl dC dI cI cB cZ cJ cC cP cV cT cO x0 m0 g tf tq tt gm hK hP hD hS ls hl
      · obtain rfl : f_13 = 31 := hsw
        refine lv_tableIn (tgt := 1331) hx hb dL_law_32 (by decide) (by decide) rfl (by decide) ?_
        exact law_case_31 l C0 hA hAl rfl dC dI cI cB cZ cJ cC cP cV cT cO x0 m0 g tf tq tt gm hK hP hD hS ls hl
      · obtain rfl : f_13 = 32 := hsw
        refine lv_tableIn (tgt := 1374) hx hb dL_law_32 (by decide) (by decide) rfl (by decide) ?_
        exact law_case_32 l C0 hA hAl rfl dC dI cI cB cZ cJ cC cP cV cT cO x0 m0 g tf tq tt gm hK hP hD hS ls hl
      · obtain rfl : f_13 = 33 := hsw
        refine lv_tableIn (tgt := 1407) hx hb dL_law_32 (by decide) (by decide) rfl (by decide) ?_
        exact law_case_33 l C0 hA hAl rfl dC dI cI cB cZ cJ cC cP cV cT cO x0 m0 g tf tq tt gm hK hP hD hS ls hl
      · obtain rfl : f_13 = 34 := hsw
        refine lv_tableIn (tgt := 1450) hx hb dL_law_32 (by decide) (by decide) rfl (by decide) ?_
        exact law_case_34 l C0 hA hAl rfl dC dI cI cB cZ cJ cC cP cV cT cO x0 m0 g tf tq tt gm hK hP hD hS ls hl
      · obtain rfl : f_13 = 35 := hsw
        refine lv_tableIn (tgt := 1483) hx hb dL_law_32 (by decide) (by decide) rfl (by decide) ?_
        exact law_case_35 l C0 hA hAl rfl dC dI cI cB cZ cJ cC cP cV cT cO x0 m0 g tf tq tt gm hK hP hD hS ls hl
      · obtain rfl : f_13 = 36 := hsw
        refine lv_tableIn (tgt := 1516) hx hb dL_law_32 (by decide) (by decide) rfl (by decide) ?_
        exact law_case_36 l C0 hA hAl rfl dC dI cI cB cZ cJ cC cP cV cT cO x0 m0 g tf tq tt gm hK hP hD hS ls hl
      · obtain rfl : f_13 = 37 := hsw
        refine lv_tableIn (tgt := 1539) hx hb dL_law_32 (by decide) (by decide) rfl (by decide) ?_
        exact law_case_37 l C0 hA hAl rfl dC dI cI cB cZ cJ cC cP cV cT cO x0 m0 g tf tq tt gm hK hP hD hS ls hl
      · obtain rfl : f_13 = 38 := hsw
        refine lv_tableIn (tgt := 1562) hx hb dL_law_32 (by decide) (by decide) rfl (by decide) ?_
        exact law_case_38 l C0 hA hAl rfl dC dI cI cB cZ cJ cC cP cV cT cO x0 m0 g tf tq tt gm hK hP hD hS ls hl
      · obtain rfl : f_13 = 39 := hsw
        refine lv_tableIn (tgt := 1595) hx hb dL_law_32 (by decide) (by decide) rfl (by decide) ?_
        exact law_case_39 l C0 hA hAl rfl dC dI cI cB cZ cJ cC cP cV cT cO x0 m0 g tf tq tt gm hK hP hD hS ls hl
      · obtain rfl : f_13 = 40 := hsw
        refine lv_tableIn (tgt := 1618) hx hb dL_law_32 (by decide) (by decide) rfl (by decide) ?_
        exact law_case_40 l C0 hA hAl rfl dC dI cI cB cZ cJ cC cP cV cT cO x0 m0 g tf tq tt gm hK hP hD hS ls hl
      · obtain rfl : f_13 = 41 := hsw
        refine lv_tableIn (tgt := 1641) hx hb dL_law_32 (by decide) (by decide) rfl (by decide) ?_
        exact law_case_41 l C0 hA hAl rfl dC dI cI cB cZ cJ cC cP cV cT cO x0 m0 g tf tq tt gm hK hP hD hS ls hl
      · obtain rfl : f_13 = 42 := hsw
        refine lv_tableIn (tgt := 1654) hx hb dL_law_32 (by decide) (by decide) rfl (by decide) ?_
        exact law_case_42 l C0 hA hAl rfl dC dI cI cB cZ cJ cC cP cV cT cO x0 m0 g tf tq tt gm hK hP hD hS ls hl
      · obtain rfl : f_13 = 43 := hsw
        refine lv_tableIn (tgt := 1688) hx hb dL_law_32 (by decide) (by decide) rfl (by decide) ?_
        exact law_case_43 l C0 hA hAl rfl dC dI cI cB cZ cJ cC cP cV cT cO x0 m0 g tf tq tt gm hK hP hD hS ls hl
      · obtain rfl : f_13 = 44 := hsw
        refine lv_tableIn (tgt := 1701) hx hb dL_law_32 (by decide) (by decide) rfl (by decide) ?_
        exact law_case_44 l C0 hA hAl rfl dC dI cI cB cZ cJ cC cP cV cT cO x0 m0 g tf tq tt gm hK hP hD hS ls hl
      · obtain rfl : f_13 = 45 := hsw
        refine lv_tableIn (tgt := 1734) hx hb dL_law_32 (by decide) (by decide) rfl (by decide) ?_
        exact law_case_45 l C0 hA hAl rfl dC dI cI cB cZ cJ cC cP cV cT cO x0 m0 g tf tq tt gm hK hP hD hS ls hl
      · obtain rfl : f_13 = 46 := hsw
        refine lv_tableIn (tgt := 1787) hx hb dL_law_32 (by decide) (by decide) rfl (by decide) ?_
        exact law_case_46 l C0 hA hAl rfl dC dI cI cB cZ cJ cC cP cV cT cO x0 m0 g tf tq tt gm hK hP hD hS ls hl
      · obtain rfl : f_13 = 47 := hsw
        refine lv_tableIn (tgt := 1820) hx hb dL_law_32 (by decide) (by decide) rfl (by decide) ?_
        exact law_case_47 l C0 hA hAl rfl dC dI cI cB cZ cJ cC cP cV cT cO x0 m0 g tf tq tt gm hK hP hD hS ls hl
      · obtain rfl : f_13 = 48 := hsw
        refine lv_tableIn (tgt := 1843) hx hb dL_law_32 (by decide) (by decide) rfl (by decide) ?_
        exact law_case_48 l C0 hA hAl rfl dC dI cI cB cZ cJ cC cP cV cT cO x0 m0 g tf tq tt gm hK hP hD hS ls hl
      · obtain rfl : f_13 = 49 := hsw
        refine lv_tableIn (tgt := 1876) hx hb dL_law_32 (by decide) (by decide) rfl (by decide) ?_
        exact law_case_49 l C0 hA hAl rfl dC dI cI cB cZ cJ cC cP cV cT cO x0 m0 g tf tq tt gm hK hP hD hS ls hl
      · obtain rfl : f_13 = 50 := hsw
        refine lv_tableIn (tgt := 1900) hx hb dL_law_32 (by decide) (by decide) rfl (by decide) ?_
        exact law_case_50 l C0 hA hAl rfl dC dI cI cB cZ cJ cC cP cV cT cO x0 m0 g tf tq tt gm hK hP hD hS ls hl
      · obtain rfl : f_13 = 51 := hsw
        refine lv_tableIn (tgt := 1943) hx hb dL_law_32 (by decide) (by decide) rfl (by decide) ?_
        exact law_case_51 l C0 hA hAl rfl dC dI cI cB cZ cJ cC cP cV cT cO x0 m0 g tf tq tt gm hK hP hD hS ls hl
      · obtain rfl : f_13 = 52 := hsw
        refine lv_tableIn (tgt := 1956) hx hb dL_law_32 (by decide) (by decide) rfl (by decide) ?_
        exact law_case_52 l C0 hA hAl rfl dC dI cI cB cZ cJ cC cP cV cT cO x0 m0 g tf tq tt gm hK hP hD hS ls hl
