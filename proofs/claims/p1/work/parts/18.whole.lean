set_option maxHeartbeats 40000000 in
set_option maxRecDepth 100000 in
theorem whole_start {p : Program} {e : Env} {s : State} {m : MethodId} {below : List Frame} {meth : Method} {c : Code} (l : Launch) (hflags : l.flags = flags0) {b L : Nat} {xs : Nat → Int32} (hL : L ≤ 5) (C0 : lw_At p s m meth c b L xs) : W p l e room_1 s m #[Value.ref b] below meth c s.heap [] 0 0 (lw_Z below #[Value.ref b] s) (entryFrame m ([Value.ref b] : List Value).toArray 4) := by
  obtain ⟨hx, hb, hr, hml, hown, hts, hX, hbl, hlocks, hgv⟩ := id C0
  have hown : s.vm.findClass RL = some m.cls := hown
  obtain ⟨cc0, ci0, hKn0⟩ := u_known (C := RX0) (T := TX0) (N := 10) (n := 10) hts nX0 (hts (.instantiable RX0 10) (by decide +kernel))
  obtain ⟨cc1, ci1, hKn1⟩ := u_known (C := RX1) (T := TX1) (N := 18) (n := 18) hts nX1 (hts (.instantiable RX1 18) (by decide +kernel))
  obtain ⟨cc2, ci2, hKn2⟩ := u_known (C := RX2) (T := TX2) (N := 15) (n := 15) hts nX2 (hts (.instantiable RX2 15) (by decide +kernel))
  obtain ⟨cc3, ci3, hKn3⟩ := u_known (C := RX3) (T := TX3) (N := 16) (n := 16) hts nX3 (hts (.instantiable RX3 16) (by decide +kernel))
  obtain ⟨cc4, ci4, hKn4⟩ := u_known (C := RX4) (T := TX4) (N := 10) (n := 10) hts nX4 (hts (.instantiable RX4 10) (by decide +kernel))
  obtain ⟨cc5, ci5, hKn5⟩ := u_known (C := RX5) (T := TX5) (N := 7) (n := 7) hts nX5 (hts (.instantiable RX5 7) (by decide +kernel))
  obtain ⟨cc6, ci6, hKn6⟩ := u_known (C := RX6) (T := TX6) (N := 11) (n := 11) hts nX6 (hts (.instantiable RX6 11) (by decide +kernel))
  obtain ⟨cc7, ci7, hKn7⟩ := u_known (C := RX7) (T := TX7) (N := 8) (n := 8) hts nX7 (hts (.instantiable RX7 8) (by decide +kernel))
  obtain ⟨cc8, ci8, hKn8⟩ := u_known (C := RX8) (T := TX8) (N := 5) (n := 5) hts nX8 (hts (.instantiable RX8 5) (by decide +kernel))
  obtain ⟨cc9, ci9, hKn9⟩ := u_known (C := RX9) (T := TX9) (N := 12) (n := 12) hts nX9 (hts (.instantiable RX9 12) (by decide +kernel))
  obtain ⟨cc10, ci10, hKn10⟩ := u_known (C := RX10) (T := TX10) (N := 8) (n := 8) hts nX10 (hts (.instantiable RX10 8) (by decide +kernel))
  obtain ⟨cc11, ci11, hKn11⟩ := u_known (C := RX11) (T := TX11) (N := 20) (n := 20) hts nX11 (hts (.instantiable RX11 20) (by decide +kernel))
  obtain ⟨cc12, ci12, hKn12⟩ := u_known (C := RX12) (T := TX12) (N := 172) (n := 172) hts nX12 (hts (.instantiable RX12 172) (by decide +kernel))
  obtain ⟨dC, dI, hKc⟩ : ∃ (dC : Nat → ClassId) (dI : Nat → Nat → Nat), ∀ (k : Nat) (q : vw_C), vwCl[k]? = some q → u_Kn s q.1 q.2.1 q.2.2 (dC k) (dI k) := by
    refine ⟨fun k => match k with | 0 => cc0 | 1 => cc1 | 2 => cc2 | 3 => cc3 | 4 => cc4 | 5 => cc5 | 6 => cc6 | 7 => cc7 | 8 => cc8 | 9 => cc9 | 10 => cc10 | 11 => cc11 | _ => cc12, fun k => match k with | 0 => ci0 | 1 => ci1 | 2 => ci2 | 3 => ci3 | 4 => ci4 | 5 => ci5 | 6 => ci6 | 7 => ci7 | 8 => ci8 | 9 => ci9 | 10 => ci10 | 11 => ci11 | _ => ci12, ?_⟩
    intro k q hq
    match k, hq with
    | 0, hq => cases hq; exact hKn0
    | 1, hq => cases hq; exact hKn1
    | 2, hq => cases hq; exact hKn2
    | 3, hq => cases hq; exact hKn3
    | 4, hq => cases hq; exact hKn4
    | 5, hq => cases hq; exact hKn5
    | 6, hq => cases hq; exact hKn6
    | 7, hq => cases hq; exact hKn7
    | 8, hq => cases hq; exact hKn8
    | 9, hq => cases hq; exact hKn9
    | 10, hq => cases hq; exact hKn10
    | 11, hq => cases hq; exact hKn11
    | 12, hq => cases hq; exact hKn12
    | k + 13, hq => simp [vwCl] at hq
  obtain ⟨cI, hcI⟩ := nw_ty_int (hts (.arrayClass .int) (by decide +kernel))
  obtain ⟨cB, hcB⟩ := nw_ty_byte (hts (.arrayClass .byte) (by decide +kernel))
  obtain ⟨cZ, hcZ⟩ := nw_ty_boolean (hts (.arrayClass .boolean) (by decide +kernel))
  obtain ⟨cJ, hcJ⟩ := nw_ty_long (hts (.arrayClass .long) (by decide +kernel))
  obtain ⟨cC, hcC⟩ := nw_ty_char (hts (.arrayClass .char) (by decide +kernel))
  have hAO5 : va_AO RX5 s := va_AO.of (hts (.arrayOver (.object RX5)) (by decide +kernel))
  obtain ⟨cP, hcP⟩ := nw_ty_obj hAO5
  have hAO10 : va_AO RX10 s := va_AO.of (hts (.arrayOver (.object RX10)) (by decide +kernel))
  obtain ⟨cV, hcV⟩ := nw_ty_obj hAO10
  have hAO9 : va_AO RX9 s := va_AO.of (hts (.arrayOver (.object RX9)) (by decide +kernel))
  obtain ⟨cT, hcT⟩ := nw_ty_obj hAO9
  have hAO4 : va_AO RX4 s := va_AO.of (hts (.arrayOver (.object RX4)) (by decide +kernel))
  obtain ⟨cO, hcO⟩ := nw_ty_obj hAO4
  have hK : va_K (dC, dI) vwCl [(cI, .int), (cB, .byte), (cZ, .boolean), (cJ, .long), (cC, .char), (cP, .object "DiskEvidence$Picture"), (cV, .object "DiskEvidence$Volume"), (cT, .object "DiskEvidence$Tree"), (cO, .object "DiskEvidence$Opening")] s := by
    refine ⟨hKc, fun k q hq => ?_⟩
    match k, hq with
    | 0, hq => cases hq; exact hcI
    | 1, hq => cases hq; exact hcB
    | 2, hq => cases hq; exact hcZ
    | 3, hq => cases hq; exact hcJ
    | 4, hq => cases hq; exact hcC
    | 5, hq => cases hq; exact hcP
    | 6, hq => cases hq; exact hcV
    | 7, hq => cases hq; exact hcT
    | 8, hq => cases hq; exact hcO
    | k + 9, hq => simp at hq
  have hN23 : va_Nw (.methodLinkNest RX3 23 yX1_init "DiskEvidence") s := va_Nw.of rfl (hts (.methodLinkNest RX3 23 yX1_init "DiskEvidence") (by decide +kernel))
  have hN43 : va_Nw (.methodLinkNest RX11 43 yX3_init "DiskEvidence") s := va_Nw.of rfl (hts (.methodLinkNest RX11 43 yX3_init "DiskEvidence") (by decide +kernel))
  have hN50 : va_Nw (.methodLinkNest RX11 50 yX0_init "DiskEvidence") s := va_Nw.of rfl (hts (.methodLinkNest RX11 50 yX0_init "DiskEvidence") (by decide +kernel))
  have hN57 : va_Nw (.methodLinkNest RX11 57 yX6_init "DiskEvidence") s := va_Nw.of rfl (hts (.methodLinkNest RX11 57 yX6_init "DiskEvidence") (by decide +kernel))
  have hN64 : va_Nw (.methodLinkNest RX11 64 yX8_init "DiskEvidence") s := va_Nw.of rfl (hts (.methodLinkNest RX11 64 yX8_init "DiskEvidence") (by decide +kernel))
  have hF31 : va_Nw (.fieldLinkNest RX3 31 "DiskEvidence" "NO_BYTES" "[B" "DiskEvidence") s := va_Nw.of rfl (hts (.fieldLinkNest RX3 31 "DiskEvidence" "NO_BYTES" "[B" "DiskEvidence") (by decide +kernel))
  have hF15 : va_Nw (.fieldLinkNest RX0 15 "DiskEvidence" "NO_BYTES" "[B" "DiskEvidence") s := va_Nw.of rfl (hts (.fieldLinkNest RX0 15 "DiskEvidence" "NO_BYTES" "[B" "DiskEvidence") (by decide +kernel))
  have hF22 : va_Nw (.fieldLinkNest RX6 22 "DiskEvidence" "NO_BYTES" "[B" "DiskEvidence") s := va_Nw.of rfl (hts (.fieldLinkNest RX6 22 "DiskEvidence" "NO_BYTES" "[B" "DiskEvidence") (by decide +kernel))
  obtain ⟨A, hAe⟩ : ∃ A : Nat → Prop, A = fun q => s.heap.size ≤ q := ⟨_, rfl⟩
  have hA : ∀ q : Nat, s.heap.size ≤ q → A q := fun q h => by rw [hAe]; exact h
  have hAl : ∀ q : Nat, A q → s.heap.size ≤ q := fun q h => by rw [hAe] at h; exact h
  have hA0 : ∀ a : Nat, a < s.heap.size → ¬ A a := fun a h1 h2 => absurd (hAl a h2) (Nat.not_le.mpr h1)
  have hbA : ¬ A b := hA0 b hbl
  have hs := flat_of_before _ hgv
  have hg1 : (Cond.arrayOf (.static "DiskEvidence" "NO_BYTES" "[B") .byte).before #[Value.ref b] s = true := hs _ (by decide +kernel)
  have hg2 : (Cond.eq (.length (.static "DiskEvidence" "NO_BYTES" "[B")) (.int 0)).before #[Value.ref b] s = true := hs _ (by decide +kernel)
  obtain ⟨nb, hnb, -⟩ := va_Tof (N := 0) (f := fun _ => .null) (A := A) (by decide) hg1 (va_eqt hg2) (fun j hj => absurd hj (Nat.not_lt_zero j)) hA0
  have hZ : va_Z "DiskEvidence" "NO_BYTES" "[B" (.ref nb) A s s.heap := va_Zref (hts (.laysStatic "DiskEvidence" "NO_BYTES" "[B") (by decide +kernel)) (hts (.initialized "DiskEvidence") (by decide +kernel)) hnb hA0
  have hS : va_S A s.heap s.heap [] := va_S.rf
  have hP : va_P (dC, dI) vwCl [] s.heap := nw_P0
  have hD : va_D A [] := nw_D0
  have hl := lv_entry ([.ref b]) (n := 4) (Nat.le_of_ble_eq_true rfl)
  rw [lg_entry_eq]
  generalize (lg_sl ([.ref b]) ++ List.replicate (4 - (lg_sl ([.ref b])).length) Slot.unset).toArray = ls at hl ⊢
  have hl : lv_has ls 4 [(0, .ref b)] := hl
  refine va_new (ci := 11) (fs := [.null, .int 0, .int 0, .null, .int 0, .null, .int 0, .null, .int 0, .null, .int 0, .null, .int 0, .null, .null, .null, .null, .null, .null, .int 0]) (C := RX11) (T := TX11) (N := 20) hx hb hts nX11 tyX11 tyX11_ok hown (hts (.classLink RL 7 RX11) tm_310) (hts (.instantiable RX11 20) tm_311) (hts (.initialized RX11) tm_290) hK hP hD hS hA rfl (by decide +kernel) (Nat.le_of_ble_eq_true rfl) (Nat.le_of_ble_eq_true rfl) dL_law_0 (fun q1 H hP hD hS => ?_)
  have hP : va_P (dC, dI) vwCl [(q1, .inr (11, [.null, .int 0, .int 0, .null, .int 0, .null, .int 0, .null, .int 0, .null, .int 0, .null, .int 0, .null, .null, .null, .null, .null, .null, .int 0]))] H := hP
  have hD : va_D A [(q1, .inr (11, [.null, .int 0, .int 0, .null, .int 0, .null, .int 0, .null, .int 0, .null, .int 0, .null, .int 0, .null, .null, .null, .null, .null, .null, .int 0]))] := hD
  refine W.widen (k := 1) (n := 20) (by decide) (by decide) ?_
  refine lv_dup hx hb dL_law_3 rfl ?_
  have hPc := hP.sub (ws' := [(q1, .inr (11, [.null, .int 0, .int 0, .null, .int 0, .null, .int 0, .null, .int 0, .null, .int 0, .null, .int 0, .null, .null, .null, .null, .null, .null, .int 0]))]) [0] rfl
  have hDc := hD.sub (ws' := [(q1, .inr (11, [.null, .int 0, .int 0, .null, .int 0, .null, .int 0, .null, .int 0, .null, .int 0, .null, .int 0, .null, .null, .null, .null, .null, .null, .int 0]))]) [0] (by decide) rfl
  have hKc := hK
  have hFc := va_free (wc := [(q1, .inr (11, [.null, .int 0, .int 0, .null, .int 0, .null, .int 0, .null, .int 0, .null, .int 0, .null, .int 0, .null, .null, .null, .null, .null, .null, .int 0]))]) hD hS hA [0] rfl
  refine va_callv (va_runI (As := []) (rest := [.ref q1]) ⟨hx, hb, hml, hown, hts⟩ (c_X11_init l dC dI cI cB cZ cJ cC cP cV cT cO H.size q1 nb) (cwI 0 hts gq_L_law_X11_init_n9 rfl rfl rfl (hts (.initialized RX11) tm_290) (hts (.methodLink RL 9 yX11_init) tm_312) (hts (.instanceMethod yX11_init) tm_313) rfl (by decide +kernel) ⟨Nat.le_of_ble_eq_true rfl, Nat.le_of_ble_eq_true rfl⟩) ⟨fun a U g mk q => by obtain ⟨q0, q1, qP, qK, qD, q5, q6, q7, q8, q9, q10, q11, q12, q13, q14, q15, q16, q17⟩ := q; exact ⟨q0, q1, qP, va_K.moved (u := U) (U := U.calling g mk a) (Vm.Alike.refl U.vm) qK, qD, (va_AO.moved (u := U) (U := U.calling g mk a) (Vm.Alike.refl U.vm) q5), (va_AO.moved (u := U) (U := U.calling g mk a) (Vm.Alike.refl U.vm) q6), (va_AO.moved (u := U) (U := U.calling g mk a) (Vm.Alike.refl U.vm) q7), (va_AO.moved (u := U) (U := U.calling g mk a) (Vm.Alike.refl U.vm) q8), va_Nw.same rfl rfl q9, va_Nw.same rfl rfl q10, va_Nw.same rfl rfl q11, va_Nw.same rfl rfl q12, va_Nw.same rfl rfl q13, va_Nw.same rfl rfl q14, va_Nw.same rfl rfl q15, va_Nw.same rfl rfl q16, (va_Z.moved (u := U) (U := U.calling g mk a) (Vm.Alike.refl U.vm) q17)⟩, fun U hU hW => ⟨rfl, by rw [hU], by rw [hU]; exact hPc, va_K.moved hW.alike hKc, hDc.weaken (fun _ _ _ _ => trivial), va_AO.moved hW.alike hAO5, va_AO.moved hW.alike hAO10, va_AO.moved hW.alike hAO9, va_AO.moved hW.alike hAO4, va_Nw.warmM hW hN43, va_Nw.warmM hW hN50, va_Nw.warmM hW hN57, va_Nw.warmM hW hN64, va_Nw.warmM hW hN23, va_Nw.warmF hW hF31, va_Nw.warmF hW hF15, va_Nw.warmF hW hF22, by rw [hU]; exact va_Z.moved hW.alike ((hZ.kept (fun a h1 h2 => hS.2.1 a h1 h2)).narrow hFc)⟩⟩ rfl rfl hl.1 rfl (lv_room (Nat.le_of_ble_eq_true rfl)) dL_law_4 ⟨Nat.le_of_ble_eq_true rfl, Nat.le_of_ble_eq_true rfl⟩) hS (fun q _ h => hFc q h) hFc (fun u_2 t H1 locs ht hvm _ hB hz1 hk1 hS => ?_)
  obtain ⟨hP1, hD1⟩ := hB
  rw [ht] at hP1
  obtain ⟨hP, hD⟩ := va_join (wr := []) (w1 := [(q1, .inr (11, (fsX u_2.1))), ((u_2.1 0), .inl (cB, 4000, (.inl (fun _ => 0)))), ((u_2.1 3), .inl (cP, 6, (.inr (.inr (.inr (.inr (fun _ => none))))))), ((u_2.1 14), .inr (0, (fs0 (u_2.2.1)))), ((u_2.1 15), .inr (6, (fs6 (u_2.2.2.1)))), ((u_2.1 16), .inr (8, (fs8 (u_2.2.2.2)))), ((u_2.1 17), .inl (cI, 300, (.inl (fun _ => 0)))), ((u_2.1 18), .inl (cJ, 100, (.inr (.inl (fun _ => 0)))))]) hP hD [0] [] rfl rfl (by decide) (by decide) hk1 hFc hP1 hD1
  generalize H1 = H at hP hS ⊢
  have hP : va_P (dC, dI) vwCl [(q1, .inr (11, (fsX u_2.1))), ((u_2.1 0), .inl (cB, 4000, (.inl (fun _ => 0)))), ((u_2.1 3), .inl (cP, 6, (.inr (.inr (.inr (.inr (fun _ => none))))))), ((u_2.1 14), .inr (0, (fs0 (u_2.2.1)))), ((u_2.1 15), .inr (6, (fs6 (u_2.2.2.1)))), ((u_2.1 16), .inr (8, (fs8 (u_2.2.2.2)))), ((u_2.1 17), .inl (cI, 300, (.inl (fun _ => 0)))), ((u_2.1 18), .inl (cJ, 100, (.inr (.inl (fun _ => 0)))))] H := hP
  have hD : va_D A [(q1, .inr (11, (fsX u_2.1))), ((u_2.1 0), .inl (cB, 4000, (.inl (fun _ => 0)))), ((u_2.1 3), .inl (cP, 6, (.inr (.inr (.inr (.inr (fun _ => none))))))), ((u_2.1 14), .inr (0, (fs0 (u_2.2.1)))), ((u_2.1 15), .inr (6, (fs6 (u_2.2.2.1)))), ((u_2.1 16), .inr (8, (fs8 (u_2.2.2.2)))), ((u_2.1 17), .inl (cI, 300, (.inl (fun _ => 0)))), ((u_2.1 18), .inl (cJ, 100, (.inr (.inl (fun _ => 0)))))] := hD
  refine W.widen (k := 31) (n := 70031) (by decide) (by decide) ?_
  refine lv_astore_n (lv' := [(1, .ref q1), (0, .ref b)]) hx hb dL_law_7 rfl hl (by decide) rfl (fun ls hl => ?_)
  refine va_new (ci := 12) (fs := [.int 0, .null, .int 0, .int 0, .null, .null, .null, .int 0, .null, .null, .null, .null, .null, .null, .null, .int 0, .int 0, .null, .null, .int 0, .int 0, .null, .null, .null, .null, .null, .int 0, .null, .null, .int 0, .int 0, .null, .null, .null, .int 0, .null, .null, .null, .null, .int 0, .int 0, .int 0, .int 0, .int 0, .int 0, .int 0, .int 0, .int 0, .int 0, .int 0, .null, .null, .int 0, .int 0, .null, .int 0, .int 0, .int 0, .int 0, .int 0, .null, .null, .null, .null, .null, .null, .null, .null, .null, .null, .null, .null, .null, .null, .null, .null, .null, .null, .null, .null, .null, .null, .null, .null, .null, .null, .null, .null, .null, .null, .null, .int 0, .int 0, .int 0, .null, .null, .null, .int 0, .null, .null, .null, .null, .int 0, .null, .null, .null, .int 0, .int 0, .int 0, .int 0, .int 0, .null, .null, .null, .null, .null, .null, .null, .null, .null, .int 0, .null, .int 0, .null, .int 0, .null, .null, .null, .int 0, .int 0, .null, .null, .null, .null, .null, .int 0, .int 0, .int 0, .null, .int 0, .null, .int 0, .null, .null, .null, .null, .int 0, .int 0, .null, .int 0, .null, .int 0, .null, .null, .null, .null, .null, .int 0, .null, .null, .null, .int 0, .null, .null, .null, .null, .null, .int 0, .null, .null, .null, .null]) (C := RX12) (T := TX12) (N := 172) hx hb hts nX12 tyX12 tyX12_ok hown (hts (.classLink RL 10 RX12) tm_2239) (hts (.instantiable RX12 172) tm_2240) (hts (.initialized RX12) tm_296) hK hP hD hS hA rfl (by decide +kernel) (Nat.le_of_ble_eq_true rfl) (Nat.le_of_ble_eq_true rfl) dL_law_8 (fun q3 H hP hD hS => ?_)
  have hP : va_P (dC, dI) vwCl [(q1, .inr (11, (fsX u_2.1))), ((u_2.1 0), .inl (cB, 4000, (.inl (fun _ => 0)))), ((u_2.1 3), .inl (cP, 6, (.inr (.inr (.inr (.inr (fun _ => none))))))), ((u_2.1 14), .inr (0, (fs0 (u_2.2.1)))), ((u_2.1 15), .inr (6, (fs6 (u_2.2.2.1)))), ((u_2.1 16), .inr (8, (fs8 (u_2.2.2.2)))), ((u_2.1 17), .inl (cI, 300, (.inl (fun _ => 0)))), ((u_2.1 18), .inl (cJ, 100, (.inr (.inl (fun _ => 0))))), (q3, .inr (12, [.int 0, .null, .int 0, .int 0, .null, .null, .null, .int 0, .null, .null, .null, .null, .null, .null, .null, .int 0, .int 0, .null, .null, .int 0, .int 0, .null, .null, .null, .null, .null, .int 0, .null, .null, .int 0, .int 0, .null, .null, .null, .int 0, .null, .null, .null, .null, .int 0, .int 0, .int 0, .int 0, .int 0, .int 0, .int 0, .int 0, .int 0, .int 0, .int 0, .null, .null, .int 0, .int 0, .null, .int 0, .int 0, .int 0, .int 0, .int 0, .null, .null, .null, .null, .null, .null, .null, .null, .null, .null, .null, .null, .null, .null, .null, .null, .null, .null, .null, .null, .null, .null, .null, .null, .null, .null, .null, .null, .null, .null, .null, .int 0, .int 0, .int 0, .null, .null, .null, .int 0, .null, .null, .null, .null, .int 0, .null, .null, .null, .int 0, .int 0, .int 0, .int 0, .int 0, .null, .null, .null, .null, .null, .null, .null, .null, .null, .int 0, .null, .int 0, .null, .int 0, .null, .null, .null, .int 0, .int 0, .null, .null, .null, .null, .null, .int 0, .int 0, .int 0, .null, .int 0, .null, .int 0, .null, .null, .null, .null, .int 0, .int 0, .null, .int 0, .null, .int 0, .null, .null, .null, .null, .null, .int 0, .null, .null, .null, .int 0, .null, .null, .null, .null, .null, .int 0, .null, .null, .null, .null]))] H := hP
  have hD : va_D A [(q1, .inr (11, (fsX u_2.1))), ((u_2.1 0), .inl (cB, 4000, (.inl (fun _ => 0)))), ((u_2.1 3), .inl (cP, 6, (.inr (.inr (.inr (.inr (fun _ => none))))))), ((u_2.1 14), .inr (0, (fs0 (u_2.2.1)))), ((u_2.1 15), .inr (6, (fs6 (u_2.2.2.1)))), ((u_2.1 16), .inr (8, (fs8 (u_2.2.2.2)))), ((u_2.1 17), .inl (cI, 300, (.inl (fun _ => 0)))), ((u_2.1 18), .inl (cJ, 100, (.inr (.inl (fun _ => 0))))), (q3, .inr (12, [.int 0, .null, .int 0, .int 0, .null, .null, .null, .int 0, .null, .null, .null, .null, .null, .null, .null, .int 0, .int 0, .null, .null, .int 0, .int 0, .null, .null, .null, .null, .null, .int 0, .null, .null, .int 0, .int 0, .null, .null, .null, .int 0, .null, .null, .null, .null, .int 0, .int 0, .int 0, .int 0, .int 0, .int 0, .int 0, .int 0, .int 0, .int 0, .int 0, .null, .null, .int 0, .int 0, .null, .int 0, .int 0, .int 0, .int 0, .int 0, .null, .null, .null, .null, .null, .null, .null, .null, .null, .null, .null, .null, .null, .null, .null, .null, .null, .null, .null, .null, .null, .null, .null, .null, .null, .null, .null, .null, .null, .null, .null, .int 0, .int 0, .int 0, .null, .null, .null, .int 0, .null, .null, .null, .null, .int 0, .null, .null, .null, .int 0, .int 0, .int 0, .int 0, .int 0, .null, .null, .null, .null, .null, .null, .null, .null, .null, .int 0, .null, .int 0, .null, .int 0, .null, .null, .null, .int 0, .int 0, .null, .null, .null, .null, .null, .int 0, .int 0, .int 0, .null, .int 0, .null, .int 0, .null, .null, .null, .null, .int 0, .int 0, .null, .int 0, .null, .int 0, .null, .null, .null, .null, .null, .int 0, .null, .null, .null, .int 0, .null, .null, .null, .null, .null, .int 0, .null, .null, .null, .null]))] := hD
  refine W.widen (k := 32) (n := 70203) (by decide) (by decide) ?_
  refine lv_dup hx hb dL_law_11 rfl ?_
  have hPc := hP.sub (ws' := [(q3, .inr (12, [.int 0, .null, .int 0, .int 0, .null, .null, .null, .int 0, .null, .null, .null, .null, .null, .null, .null, .int 0, .int 0, .null, .null, .int 0, .int 0, .null, .null, .null, .null, .null, .int 0, .null, .null, .int 0, .int 0, .null, .null, .null, .int 0, .null, .null, .null, .null, .int 0, .int 0, .int 0, .int 0, .int 0, .int 0, .int 0, .int 0, .int 0, .int 0, .int 0, .null, .null, .int 0, .int 0, .null, .int 0, .int 0, .int 0, .int 0, .int 0, .null, .null, .null, .null, .null, .null, .null, .null, .null, .null, .null, .null, .null, .null, .null, .null, .null, .null, .null, .null, .null, .null, .null, .null, .null, .null, .null, .null, .null, .null, .null, .int 0, .int 0, .int 0, .null, .null, .null, .int 0, .null, .null, .null, .null, .int 0, .null, .null, .null, .int 0, .int 0, .int 0, .int 0, .int 0, .null, .null, .null, .null, .null, .null, .null, .null, .null, .int 0, .null, .int 0, .null, .int 0, .null, .null, .null, .int 0, .int 0, .null, .null, .null, .null, .null, .int 0, .int 0, .int 0, .null, .int 0, .null, .int 0, .null, .null, .null, .null, .int 0, .int 0, .null, .int 0, .null, .int 0, .null, .null, .null, .null, .null, .int 0, .null, .null, .null, .int 0, .null, .null, .null, .null, .null, .int 0, .null, .null, .null, .null]))]) [8] rfl
  have hDc := hD.sub (ws' := [(q3, .inr (12, [.int 0, .null, .int 0, .int 0, .null, .null, .null, .int 0, .null, .null, .null, .null, .null, .null, .null, .int 0, .int 0, .null, .null, .int 0, .int 0, .null, .null, .null, .null, .null, .int 0, .null, .null, .int 0, .int 0, .null, .null, .null, .int 0, .null, .null, .null, .null, .int 0, .int 0, .int 0, .int 0, .int 0, .int 0, .int 0, .int 0, .int 0, .int 0, .int 0, .null, .null, .int 0, .int 0, .null, .int 0, .int 0, .int 0, .int 0, .int 0, .null, .null, .null, .null, .null, .null, .null, .null, .null, .null, .null, .null, .null, .null, .null, .null, .null, .null, .null, .null, .null, .null, .null, .null, .null, .null, .null, .null, .null, .null, .null, .int 0, .int 0, .int 0, .null, .null, .null, .int 0, .null, .null, .null, .null, .int 0, .null, .null, .null, .int 0, .int 0, .int 0, .int 0, .int 0, .null, .null, .null, .null, .null, .null, .null, .null, .null, .int 0, .null, .int 0, .null, .int 0, .null, .null, .null, .int 0, .int 0, .null, .null, .null, .null, .null, .int 0, .int 0, .int 0, .null, .int 0, .null, .int 0, .null, .null, .null, .null, .int 0, .int 0, .null, .int 0, .null, .int 0, .null, .null, .null, .null, .null, .int 0, .null, .null, .null, .int 0, .null, .null, .null, .null, .null, .int 0, .null, .null, .null, .null]))]) [8] (by decide) rfl
  have hKc := hK
  have hFc := va_free (wc := [(q3, .inr (12, [.int 0, .null, .int 0, .int 0, .null, .null, .null, .int 0, .null, .null, .null, .null, .null, .null, .null, .int 0, .int 0, .null, .null, .int 0, .int 0, .null, .null, .null, .null, .null, .int 0, .null, .null, .int 0, .int 0, .null, .null, .null, .int 0, .null, .null, .null, .null, .int 0, .int 0, .int 0, .int 0, .int 0, .int 0, .int 0, .int 0, .int 0, .int 0, .int 0, .null, .null, .int 0, .int 0, .null, .int 0, .int 0, .int 0, .int 0, .int 0, .null, .null, .null, .null, .null, .null, .null, .null, .null, .null, .null, .null, .null, .null, .null, .null, .null, .null, .null, .null, .null, .null, .null, .null, .null, .null, .null, .null, .null, .null, .null, .int 0, .int 0, .int 0, .null, .null, .null, .int 0, .null, .null, .null, .null, .int 0, .null, .null, .null, .int 0, .int 0, .int 0, .int 0, .int 0, .null, .null, .null, .null, .null, .null, .null, .null, .null, .int 0, .null, .int 0, .null, .int 0, .null, .null, .null, .int 0, .int 0, .null, .null, .null, .null, .null, .int 0, .int 0, .int 0, .null, .int 0, .null, .int 0, .null, .null, .null, .null, .int 0, .int 0, .null, .int 0, .null, .int 0, .null, .null, .null, .null, .null, .int 0, .null, .null, .null, .int 0, .null, .null, .null, .null, .null, .int 0, .null, .null, .null, .null]))]) hD hS hA [8] rfl
  refine va_callv (va_runI (As := []) (rest := [.ref q3]) ⟨hx, hb, hml, hown, hts⟩ (c_X12_init l dC dI cI cB cZ cJ cC cP cV cT cO H.size q3) (cwI 0 hts gq_L_law_X12_init_n12 rfl rfl rfl (hts (.initialized RX12) tm_296) (hts (.methodLink RL 12 yX12_init) tm_2241) (hts (.instanceMethod yX12_init) tm_2242) rfl (by decide +kernel) ⟨Nat.le_of_ble_eq_true rfl, Nat.le_of_ble_eq_true rfl⟩) ⟨fun a U g mk q => by obtain ⟨q0, q1, qP, qK, qD⟩ := q; exact ⟨q0, q1, qP, va_K.moved (u := U) (U := U.calling g mk a) (Vm.Alike.refl U.vm) qK, qD⟩, fun U hU hW => ⟨rfl, by rw [hU], by rw [hU]; exact hPc, va_K.moved hW.alike hKc, hDc.weaken (fun _ _ _ _ => trivial)⟩⟩ rfl rfl hl.1 rfl (lv_room (Nat.le_of_ble_eq_true rfl)) dL_law_12 ⟨Nat.le_of_ble_eq_true rfl, Nat.le_of_ble_eq_true rfl⟩) hS (fun q _ h => hFc q h) hFc (fun u_4 t H1 locs ht hvm _ hB hz1 hk1 hS => ?_)
  obtain ⟨hP1, hD1⟩ := hB
  rw [ht] at hP1
  obtain ⟨hP, hD⟩ := va_join (wr := [(q1, .inr (11, (fsX u_2.1))), ((u_2.1 0), .inl (cB, 4000, (.inl (fun _ => 0)))), ((u_2.1 3), .inl (cP, 6, (.inr (.inr (.inr (.inr (fun _ => none))))))), ((u_2.1 14), .inr (0, (fs0 (u_2.2.1)))), ((u_2.1 15), .inr (6, (fs6 (u_2.2.2.1)))), ((u_2.1 16), .inr (8, (fs8 (u_2.2.2.2)))), ((u_2.1 17), .inl (cI, 300, (.inl (fun _ => 0)))), ((u_2.1 18), .inl (cJ, 100, (.inr (.inl (fun _ => 0)))))]) (w1 := [(q3, .inr (12, (fsM u_4))), ((u_4 1), .inl (cI, 4000, (.inl (fun _ => 0)))), ((u_4 4), .inl (cI, 6, (.inl (fun _ => 0)))), ((u_4 5), .inl (cI, 49152, (.inl (fun _ => 0)))), ((u_4 6), .inl (cZ, 768, (.inl (fun _ => 0)))), ((u_4 168), .inl (cI, 100, (.inl (fun _ => 0)))), ((u_4 169), .inl (cI, 100, (.inl (fun _ => 0)))), ((u_4 170), .inl (cI, 100, (.inl (fun _ => 0)))), ((u_4 171), .inl (cJ, 100, (.inr (.inl (fun _ => 0)))))]) hP hD [8] [0, 1, 2, 3, 4, 5, 6, 7] rfl rfl (by decide) (by decide) hk1 hFc hP1 hD1
  generalize H1 = H at hP hS ⊢
  have hP : va_P (dC, dI) vwCl [(q1, .inr (11, (fsX u_2.1))), ((u_2.1 0), .inl (cB, 4000, (.inl (fun _ => 0)))), ((u_2.1 3), .inl (cP, 6, (.inr (.inr (.inr (.inr (fun _ => none))))))), ((u_2.1 14), .inr (0, (fs0 (u_2.2.1)))), ((u_2.1 15), .inr (6, (fs6 (u_2.2.2.1)))), ((u_2.1 16), .inr (8, (fs8 (u_2.2.2.2)))), ((u_2.1 17), .inl (cI, 300, (.inl (fun _ => 0)))), ((u_2.1 18), .inl (cJ, 100, (.inr (.inl (fun _ => 0))))), (q3, .inr (12, (fsM u_4))), ((u_4 1), .inl (cI, 4000, (.inl (fun _ => 0)))), ((u_4 4), .inl (cI, 6, (.inl (fun _ => 0)))), ((u_4 5), .inl (cI, 49152, (.inl (fun _ => 0)))), ((u_4 6), .inl (cZ, 768, (.inl (fun _ => 0)))), ((u_4 168), .inl (cI, 100, (.inl (fun _ => 0)))), ((u_4 169), .inl (cI, 100, (.inl (fun _ => 0)))), ((u_4 170), .inl (cI, 100, (.inl (fun _ => 0)))), ((u_4 171), .inl (cJ, 100, (.inr (.inl (fun _ => 0)))))] H := hP
  have hD : va_D A [(q1, .inr (11, (fsX u_2.1))), ((u_2.1 0), .inl (cB, 4000, (.inl (fun _ => 0)))), ((u_2.1 3), .inl (cP, 6, (.inr (.inr (.inr (.inr (fun _ => none))))))), ((u_2.1 14), .inr (0, (fs0 (u_2.2.1)))), ((u_2.1 15), .inr (6, (fs6 (u_2.2.2.1)))), ((u_2.1 16), .inr (8, (fs8 (u_2.2.2.2)))), ((u_2.1 17), .inl (cI, 300, (.inl (fun _ => 0)))), ((u_2.1 18), .inl (cJ, 100, (.inr (.inl (fun _ => 0))))), (q3, .inr (12, (fsM u_4))), ((u_4 1), .inl (cI, 4000, (.inl (fun _ => 0)))), ((u_4 4), .inl (cI, 6, (.inl (fun _ => 0)))), ((u_4 5), .inl (cI, 49152, (.inl (fun _ => 0)))), ((u_4 6), .inl (cZ, 768, (.inl (fun _ => 0)))), ((u_4 168), .inl (cI, 100, (.inl (fun _ => 0)))), ((u_4 169), .inl (cI, 100, (.inl (fun _ => 0)))), ((u_4 170), .inl (cI, 100, (.inl (fun _ => 0)))), ((u_4 171), .inl (cJ, 100, (.inr (.inl (fun _ => 0)))))] := hD
  refine W.widen (k := 147) (n := 815844) (by decide) (by decide) ?_
  refine lv_astore_n (lv' := [(2, .ref q3), (1, .ref q1), (0, .ref b)]) hx hb dL_law_15 rfl hl (by decide) rfl (fun ls hl => ?_)
  refine lv_iconst (v := 0) hx hb dL_law_16 (by decide) ?_
  refine lv_istore_n (lv' := [(3, .int 0), (2, .ref q3), (1, .ref q1), (0, .ref b)]) hx hb dL_law_17 rfl hl (by decide) rfl (fun ls hl => ?_)
  exact law_body l C0 hA hAl hL dC dI cI cB cZ cJ cC cP cV cT cO q1 q3 u_2.1 u_2.2.1 u_2.2.2.1 u_2.2.2.2 u_4 hK hP hD hS ls (lv_sub hl [0, 1, 2, 3] rfl)
set_option maxHeartbeats 4000000 in
theorem lw_walk (l : Launch) (hflags : l.flags = flags0) (b : Addr) (xs : List Int32) : MetFree l x (headSpec (Jvm.Cond.code x code maxLocals ret :: tables_1) room_1) (lw_P b xs) (fun _ _ _ _ _ => True) lw_Q := by
  refine MetFree.of_bodyS (code := code) (maxLocals := maxLocals) (ret := ret) (by decide) ?_ ?_
  · intro args s m h hn
    obtain ⟨meth, c, h1, h2, h3, h4, h5, h6, -, -⟩ := Cond.code_spec hn (atoms_spec (ws := Jvm.Cond.code x code maxLocals ret :: tables_1) h _ List.mem_cons_self)
    exact ⟨meth, c, h1, h2, h3, h4, h5, h6⟩
  · intro p e s m args below meth c s₁ B hml0 hP _
    obtain ⟨rfl, hx, hbd, hgv⟩ := hP
    obtain ⟨scr, harrAt, hlist, hof, hsmall⟩ := hx
    obtain ⟨hcb, hkn, -, -⟩ := State.arrayAt?_spec harrAt
    have hown : s.vm.findClass R_law = some m.cls := findClass_of_methodNamed B.named
    have hts0 : ∀ c ∈ (Jvm.Cond.code x code maxLocals ret :: tables_1), c.before #[Value.ref b] s = true := atoms_spec (ws := Jvm.Cond.code x code maxLocals ret :: tables_1) B.pre
    have hts : ∀ w ∈ lw_tbl, w.before #[Value.ref b] s = true := k2_hts_sels lw_privs (fun w hw => hts0 w (List.mem_cons_of_mem _ hw)) lw_privs_ok
    have hml : c.maxLocals = 4 := B.maxLocals_eq (hts0 _ List.mem_cons_self)
    have X₀ : Stand p l e room_1 s m #[Value.ref b] below meth c s₁ [] 0 0 := Stand.of_body B
    have hh0 : s₁.heap = s.heap := by rw [B.state]; rfl
    have hsz : scr.slots.size = xs.length := by rw [← Array.length_toList, hlist, List.length_map]
    have hval : ∀ j : Nat, j < xs.length → scr.slots[j]? = some (.int (xs.getD j 0)) := fun j hj => by
      rw [← Array.getElem?_toList, hlist]
      simp [hj]
    have hbl : b < s.heap.size := (Array.getElem?_eq_some_iff.mp hcb).1
    have hX : va_X b xs.length (fun j => xs.getD j 0) s s.heap := ⟨scr, hcb, hof, hkn, hsz, hval⟩
    have K : W p l e room_1 s m #[Value.ref b] below meth c s₁.heap [] 0 0 (lw_Z below #[Value.ref b] s) (entryFrame m ([Value.ref b] : List Value).toArray 4) := by
      rw [hh0]
      exact whole_start l hflags hbd ⟨B.exec, B.bytes, B.returns, hml, hown, hts, hX, hbl, B.notSynchronized, hgv⟩
    obtain ⟨t, a1, o, b1, b2, b3⟩ := K s₁ rfl X₀
    exact ⟨t, o, a1, b1, b2, b3⟩
theorem lw_pre_spec {args : Array Value} {s : State} (h : (Jvm.Cond.and given_1 narrow_1).before args s = true) (hr : rest_1_c.before args s = true) : ∃ (b : Addr) (xs : List Int32), lw_P b xs args s := by
  have hs := flat_of_before _ h
  have hq := flat_of_before _ hr
  have hc : (Cond.count 1).before args s = true := hs _ (by decide +kernel)
  have harr : (Cond.arrayOf (.arg 0) .int).before args s = true := hs _ (by decide +kernel)
  have hle : (Cond.le (.length (.arg 0)) (.int 5)).before args s = true := hs _ (by decide +kernel)
  have hlen : (Cond.isInt (.length (.arg 0))).before args s = true := hq _ (by decide +kernel)
  have hall : (Cond.all (.arg 0) (.isInt (.elem (.arg 0) (.index 0)))).before args s = true := hq _ (by decide +kernel)
  obtain ⟨b, xs, hb, hx⟩ := State.ints_of_pre rfl harr hlen hall
  have hsm : xs.length < 2 ^ 31 := hx.choose_spec.2.2.2
  have hev : (Term.length (.arg 0)).eval args s none [] s = some (.int xs.length.toInt32) := hx.length_eval hb
  have hv := Cond.le_ints hev (show (Term.int 5).eval args s none [] s = some (.int 5) from rfl)
  have hd : xs.length.toInt32 ≤ 5 := by
    simpa [Cond.before, Cond.holds, hv] using hle
  have hN : xs.length ≤ 5 := (Int32.ofNat_le_ofNat hsm (by decide)).mp (show Int32.ofNat xs.length ≤ Int32.ofNat 5 from hd)
  exact ⟨b, xs, Cond.one_arg hc (show args[0]? = some (.ref b) from hb), hx, hN, h⟩
theorem lw_comes (l : Launch) (hflags : l.flags = flags0) : Comes l x (Jvm.Cond.code x code maxLocals ret :: tables_1) room_1 (fun tb e args s => Calls_1 tb e args s ∧ rest_1 tb e args s ∧ Pre_1 tb e args s)
    (fun _ _ args s o t => lw_Q args s o t) := by
  intro p e ha hc hk s m args below hf hfit hheap happ hpre
  obtain ⟨b, xs, hP⟩ := lw_pre_spec hpre.2.2 hpre.2.1
  obtain ⟨k, o, h1, h2, h3, hQ⟩ := lw_walk l hflags b xs p e ha hc hk s m args below hf ((Spec.applies_iff_loose hf).mp happ).1 hP trivial
  exact ⟨k, o, h1, h2, h3, hQ⟩
theorem lw_frame {s t : State} {o : Outcome} {args : Array Value} (h : Framed s o t [] 600000 7302250) :
    Framed s o t (fieldLocs frame_1_writes args s ++ arrayLocs frame_1_arrays args s ++ staticLocs frame_1_statics s) 600000 7302250 := h
theorem lw_limb (L : Cond) (hL : ∀ (args : Array Value) (s t : State), L.after args s (.returned (some (.int 1))) t = true) :
    ArmFor flags0 classFile x code maxLocals ret World_1 tables_1 room_1 Calls_1 rest_1 Pre_1
      (fun tb e a s o t => postC L tb e a s o t ∧ Framed s o t (fieldLocs frame_1_writes a s ++ arrayLocs frame_1_arrays a s ++ staticLocs frame_1_statics s) 600000 7302250) := by
  intro l hflags _ _ p e ha hc hk s m args below hf hfit hheap happ hpre
  obtain ⟨k, o, h1, h2, h3, rfl, hF⟩ := lw_comes l hflags p e ha hc hk s m args below hf hfit hheap happ hpre
  exact ⟨k, _, h1, h2, h3, hL args s _, lw_frame hF⟩
theorem i_vc : Claimed_1_1 ∧ Claimed_1_2 := ⟨lw_limb limb_1_1 (fun args s t => by simp [limb_1_1, Cond.after, Cond.holds, Cond.value]), lw_limb limb_1_2 (fun args s t => Cond.after_iff.mpr (by
  first | (rw [show limb_1_2 = Cond.eq .result (.int 1) from rfl, Cond.eq_ints (x := 1) (y := 1) rfl rfl]; simp; done) | (simp [limb_1_2, Cond.value, Term.eval]; done)))⟩
