def dq_X5_init : List Cond := [.methodLink RX5 3 objectInit, .instanceMethod objectInit, .code objectInit ⟨#[0xb1]⟩ 1 none, .arrayClass .int, .fieldLink RX5 11 "DiskEvidence$Picture" "tables" "[I", .fieldLink RX5 15 "DiskEvidence$Picture" "partFacts" "[I", .fieldLink RX5 18 "DiskEvidence$Picture" "sectorCount" "I", .arrayClass .byte, .fieldLink RX5 22 "DiskEvidence$Picture" "bytes" "[B", .arrayClass .boolean, .fieldLink RX5 26 "DiskEvidence$Picture" "spoilt" "[Z"]
def wq_X5_init : List Cond := .code yX5_init cX5_init 2 none :: (dq_X5_init ++ (wsX50))
theorem inq_X5_init_c5 : ∀ w ∈ wsX50, w ∈ wq_X5_init := fun w h => List.mem_cons_of_mem _ (List.mem_append_right _ (h))
theorem ga_X5_init : wq_X5_init.all goodWord = true := by decide +kernel
theorem tdq_X5_init : ∀ w ∈ dq_X5_init, w ∈ lw_tbl := fun w h => (goodIn_r (big := lw_tbl) dq_X5_init [669, 316, 317, 422, 676, 678, 670, 421, 672, 695, 674] (by decide +kernel) (by decide +kernel) w h).1
theorem tq_X5_init : ∀ w ∈ wq_X5_init, w ∈ lw_tbl := fun w h => (List.mem_cons.mp h).elim (fun e => by rw [e]; exact List.mem_of_getElem? (i := 668) (by decide +kernel)) (fun h => (List.mem_append.mp h).elim (fun h => tdq_X5_init w h) (fun h => nX5 w h))
set_option maxHeartbeats 40000000 in
set_option maxRecDepth 100000 in
theorem c_X5_init (l : Launch) (dC : Nat → ClassId) (dI : Nat → Nat → Nat) (cI cB cZ cJ cC cP cV cT cO : ClassId) (sz : Nat) (h0 n : Nat) (hn : n ≤ 128) : Met l yX5_init wq_X5_init ({ frames := 1, cells := 4, slots := 8592, locals := 12 }) (va_Pc [.ref h0, .int (nI n)] (fun U => U.heap.size = sz ∧ va_P (dC, dI) vwCl [(h0, .inr (5, [.int 0, .null, .null, .null, .int 0, .null, .int 0]))] U.heap ∧ va_K (dC, dI) vwCl [(cI, .int), (cB, .byte), (cZ, .boolean), (cJ, .long), (cC, .char), (cP, .object "DiskEvidence$Picture"), (cV, .object "DiskEvidence$Volume"), (cT, .object "DiskEvidence$Tree"), (cO, .object "DiskEvidence$Opening")] U ∧ va_D (fun _ => True) [(h0, .inr (5, [.int 0, .null, .null, .null, .int 0, .null, .int 0]))])) (va_Qv (fun _ : List Value => True) (fun u t => va_P (dC, dI) vwCl [(h0, .inr (5, u))] t.heap ∧ va_D (va_A [(h0, .inr (5, [.int 0, .null, .null, .null, .int 0, .null, .int 0]))] sz) [(h0, .inr (5, u))]) (va_A [(h0, .inr (5, [.int 0, .null, .null, .null, .int 0, .null, .int 0]))] sz)) 4 8592 (va_A [(h0, .inr (5, [.int 0, .null, .null, .null, .int 0, .null, .int 0]))] sz) := by
  refine Met.ofW (cc := cX5_init) (maxL := 2) (ret := none) (by decide) rfl ?_
  intro p e s m args below meth c s₁ B hml hv
  obtain ⟨rfl, hsz, hP, hK, hD0⟩ := hv
  have hx := B.exec
  have hb := B.bytes
  have hr := B.returns
  have hts := atoms_spec (ws := wq_X5_init) B.pre
  have hown : s.vm.findClass RX5 = some m.cls := findClass_of_methodNamed B.named
  have hlocks := B.notSynchronized
  have hin : meth.name = "<init>" := (name_of_methodNamed B.named B.method).1
  subst hsz
  have hD := hD0.self (sz := s.heap.size)
  generalize hAe : va_A [(h0, .inr (5, [.int 0, .null, .null, .null, .int 0, .null, .int 0]))] s.heap.size = A at hD ⊢
  have hA : ∀ q : Nat, s.heap.size ≤ q → A q := fun q h => by rw [← hAe]; exact Or.inr h
  have hS : va_S A s.heap s.heap [] := va_S.rf
  have hl := lv_entry ([.ref h0, .int (nI n)]) (n := 2) (Nat.le_of_ble_eq_true rfl)
  rw [lg_entry_eq]
  generalize (lg_sl ([.ref h0, .int (nI n)]) ++ List.replicate (2 - (lg_sl ([.ref h0, .int (nI n)])).length) Slot.unset).toArray = ls at hl ⊢
  have hl : lv_has ls 2 [(0, .ref h0), (1, .int (nI n))] := hl
  refine lv_aload_n hx hb dX5_init_0 rfl (lv_at hl 0 rfl) ?_
  refine W.objInit hx hb hown (hts (.methodLink RX5 3 objectInit) (List.mem_of_getElem? (i := 1) rfl)) (hts (.instanceMethod objectInit) (List.mem_of_getElem? (i := 2) rfl)) (hts (.code objectInit ⟨#[0xb1]⟩ 1 none) (List.mem_of_getElem? (i := 3) rfl)) rfl (by rw [hml]; exact hl.1) rfl dX5_init_1 (Nat.le_of_ble_eq_true rfl) (Nat.le_of_ble_eq_true rfl) ?_
  refine W.eq (g2 := F0 m 4 ls []) rfl ?_
  refine lv_aload_n hx hb dX5_init_4 rfl (lv_at hl 0 rfl) ?_
  refine lv_bipush (v := 16) hx hb dX5_init_5 (by decide) ?_
  refine nw_arr (atype := .int) (N' := 16) (a0 := (16, (.inl (fun _ => 0)))) hx hb (hts (.arrayClass .int) (List.mem_of_getElem? (i := 4) rfl)) rfl hK 0 (cI := cI) rfl hP hD hS hA (fun _ => rfl) (by decide) (by decide) (by decide) (Nat.le_of_ble_eq_true rfl) (Nat.le_of_ble_eq_true rfl) dX5_init_7 (fun q1 H hP hD hS => ?_)
  have hP : va_P (dC, dI) vwCl [(h0, .inr (5, [.int 0, .null, .null, .null, .int 0, .null, .int 0])), (q1, .inl (cI, 16, (.inl (fun _ => 0))))] H := hP
  have hD : va_D A [(h0, .inr (5, [.int 0, .null, .null, .null, .int 0, .null, .int 0])), (q1, .inl (cI, 16, (.inl (fun _ => 0))))] := hD
  refine W.widen (k := 1) (n := 16) (by decide) (by decide) ?_
  refine va_putF (D := (dC, dI)) (ci := 5) (v := .ref q1) (ty := .array (.int)) (C := RX5) (T := TX5) (N := 7) hx hb hts inq_X5_init_c5 tyX5 tyX5_ok nmX5 hown hK hP hD hS 0 rfl rfl 3 (by decide) (hts (.fieldLink RX5 11 "DiskEvidence$Picture" "tables" "[I") (List.mem_of_getElem? (i := 5) rfl)) (fun _ h9 => h9) rfl hin rfl (by decide +kernel) rfl rfl (Nat.le_of_ble_eq_true rfl) dX5_init_9 (fun H locs hP hD hS => ?_)
  have hP : va_P (dC, dI) vwCl [(h0, .inr (5, [.int 0, .null, .null, .ref q1, .int 0, .null, .int 0])), (q1, .inl (cI, 16, (.inl (fun _ => 0))))] H := hP
  have hD : va_D A [(h0, .inr (5, [.int 0, .null, .null, .ref q1, .int 0, .null, .int 0])), (q1, .inl (cI, 16, (.inl (fun _ => 0))))] := hD
  refine lv_aload_n hx hb dX5_init_12 rfl (lv_at hl 0 rfl) ?_
  refine lv_sipush (v := 256) hx hb dX5_init_13 (by decide) ?_
  refine nw_arr (atype := .int) (N' := 256) (a0 := (256, (.inl (fun _ => 0)))) hx hb (hts (.arrayClass .int) (List.mem_of_getElem? (i := 4) rfl)) rfl hK 0 (cI := cI) rfl hP hD hS hA (fun _ => rfl) (by decide) (by decide) (by decide) (Nat.le_of_ble_eq_true rfl) (Nat.le_of_ble_eq_true rfl) dX5_init_16 (fun q2 H hP hD hS => ?_)
  have hP : va_P (dC, dI) vwCl [(h0, .inr (5, [.int 0, .null, .null, .ref q1, .int 0, .null, .int 0])), (q1, .inl (cI, 16, (.inl (fun _ => 0)))), (q2, .inl (cI, 256, (.inl (fun _ => 0))))] H := hP
  have hD : va_D A [(h0, .inr (5, [.int 0, .null, .null, .ref q1, .int 0, .null, .int 0])), (q1, .inl (cI, 16, (.inl (fun _ => 0)))), (q2, .inl (cI, 256, (.inl (fun _ => 0))))] := hD
  refine W.widen (k := 2) (n := 272) (by decide) (by decide) ?_
  refine va_putF (D := (dC, dI)) (ci := 5) (v := .ref q2) (ty := .array (.int)) (C := RX5) (T := TX5) (N := 7) hx hb hts inq_X5_init_c5 tyX5 tyX5_ok nmX5 hown hK hP hD hS 0 rfl rfl 5 (by decide) (hts (.fieldLink RX5 15 "DiskEvidence$Picture" "partFacts" "[I") (List.mem_of_getElem? (i := 6) rfl)) (fun _ h9 => h9) rfl hin rfl (by decide +kernel) rfl rfl (Nat.le_of_ble_eq_true rfl) dX5_init_18 (fun H locs hP hD hS => ?_)
  have hP : va_P (dC, dI) vwCl [(h0, .inr (5, [.int 0, .null, .null, .ref q1, .int 0, .ref q2, .int 0])), (q1, .inl (cI, 16, (.inl (fun _ => 0)))), (q2, .inl (cI, 256, (.inl (fun _ => 0))))] H := hP
  have hD : va_D A [(h0, .inr (5, [.int 0, .null, .null, .ref q1, .int 0, .ref q2, .int 0])), (q1, .inl (cI, 16, (.inl (fun _ => 0)))), (q2, .inl (cI, 256, (.inl (fun _ => 0))))] := hD
  refine lv_aload_n hx hb dX5_init_21 rfl (lv_at hl 0 rfl) ?_
  refine lv_iload_n hx hb dX5_init_22 rfl (lv_at hl 1 rfl) ?_
  refine va_putF (D := (dC, dI)) (ci := 5) (v := .int (nI n)) (ty := .int) (C := RX5) (T := TX5) (N := 7) hx hb hts inq_X5_init_c5 tyX5 tyX5_ok nmX5 hown hK hP hD hS 0 rfl rfl 0 (by decide) (hts (.fieldLink RX5 18 "DiskEvidence$Picture" "sectorCount" "I") (List.mem_of_getElem? (i := 7) rfl)) (fun _ h9 => h9) rfl hin rfl (by decide +kernel) rfl rfl (Nat.le_of_ble_eq_true rfl) dX5_init_23 (fun H locs hP hD hS => ?_)
  have hP : va_P (dC, dI) vwCl [(h0, .inr (5, [.int (nI n), .null, .null, .ref q1, .int 0, .ref q2, .int 0])), (q1, .inl (cI, 16, (.inl (fun _ => 0)))), (q2, .inl (cI, 256, (.inl (fun _ => 0))))] H := hP
  have hD : va_D A [(h0, .inr (5, [.int (nI n), .null, .null, .ref q1, .int 0, .ref q2, .int 0])), (q1, .inl (cI, 16, (.inl (fun _ => 0)))), (q2, .inl (cI, 256, (.inl (fun _ => 0))))] := hD
  refine lv_aload_n hx hb dX5_init_26 rfl (lv_at hl 0 rfl) ?_
  refine lv_iload_n hx hb dX5_init_27 rfl (lv_at hl 1 rfl) ?_
  refine lv_bipush (v := 64) hx hb dX5_init_28 (by decide) ?_
  refine lv_imul hx hb dX5_init_30 ?_
  refine lv_topi (fun f_3 ef_3 => ?_)
  obtain rfl : nI (n * 64) = f_3 := (ef_3.trans (pk_mul n 64)).symm
  refine nw_arr (atype := .byte) (N' := n * 64) (a0 := (n * 64, (.inl (fun _ => 0)))) hx hb (hts (.arrayClass .byte) (List.mem_of_getElem? (i := 8) rfl)) rfl hK 1 (cI := cB) rfl hP hD hS hA (fun _ => rfl) (nI_pos (by omega)) (nI_clamp (by omega)) (show n * 64 * 1 ≤ 536870912 by omega) (Nat.le_of_ble_eq_true rfl) (Nat.le_trans (m := 8464) (by omega) (Nat.le_of_ble_eq_true rfl)) dX5_init_31 (fun q4 H hP hD hS => ?_)
  have hP : va_P (dC, dI) vwCl [(h0, .inr (5, [.int (nI n), .null, .null, .ref q1, .int 0, .ref q2, .int 0])), (q1, .inl (cI, 16, (.inl (fun _ => 0)))), (q2, .inl (cI, 256, (.inl (fun _ => 0)))), (q4, .inl (cB, n * 64, (.inl (fun _ => 0))))] H := hP
  have hD : va_D A [(h0, .inr (5, [.int (nI n), .null, .null, .ref q1, .int 0, .ref q2, .int 0])), (q1, .inl (cI, 16, (.inl (fun _ => 0)))), (q2, .inl (cI, 256, (.inl (fun _ => 0)))), (q4, .inl (cB, n * 64, (.inl (fun _ => 0))))] := hD
  refine W.widen (k := 3) (n := 8464) (by decide) (by omega) ?_
  refine va_putF (D := (dC, dI)) (ci := 5) (v := .ref q4) (ty := .array (.byte)) (C := RX5) (T := TX5) (N := 7) hx hb hts inq_X5_init_c5 tyX5 tyX5_ok nmX5 hown hK hP hD hS 0 rfl rfl 1 (by decide) (hts (.fieldLink RX5 22 "DiskEvidence$Picture" "bytes" "[B") (List.mem_of_getElem? (i := 9) rfl)) (fun _ h9 => h9) rfl hin rfl (by decide +kernel) rfl rfl (Nat.le_of_ble_eq_true rfl) dX5_init_33 (fun H locs hP hD hS => ?_)
  have hP : va_P (dC, dI) vwCl [(h0, .inr (5, [.int (nI n), .ref q4, .null, .ref q1, .int 0, .ref q2, .int 0])), (q1, .inl (cI, 16, (.inl (fun _ => 0)))), (q2, .inl (cI, 256, (.inl (fun _ => 0)))), (q4, .inl (cB, n * 64, (.inl (fun _ => 0))))] H := hP
  have hD : va_D A [(h0, .inr (5, [.int (nI n), .ref q4, .null, .ref q1, .int 0, .ref q2, .int 0])), (q1, .inl (cI, 16, (.inl (fun _ => 0)))), (q2, .inl (cI, 256, (.inl (fun _ => 0)))), (q4, .inl (cB, n * 64, (.inl (fun _ => 0))))] := hD
  refine lv_aload_n hx hb dX5_init_36 rfl (lv_at hl 0 rfl) ?_
  refine lv_iload_n hx hb dX5_init_37 rfl (lv_at hl 1 rfl) ?_
  refine nw_arr (atype := .boolean) (N' := n) (a0 := (n, (.inl (fun _ => 0)))) hx hb (hts (.arrayClass .boolean) (List.mem_of_getElem? (i := 10) rfl)) rfl hK 2 (cI := cZ) rfl hP hD hS hA (fun _ => rfl) (nI_pos (by omega)) (nI_clamp (by omega)) (show n * 1 ≤ 536870912 by omega) (Nat.le_of_ble_eq_true rfl) (Nat.le_trans (m := 8592) (by omega) (Nat.le_of_ble_eq_true rfl)) dX5_init_38 (fun q5 H hP hD hS => ?_)
  have hP : va_P (dC, dI) vwCl [(h0, .inr (5, [.int (nI n), .ref q4, .null, .ref q1, .int 0, .ref q2, .int 0])), (q1, .inl (cI, 16, (.inl (fun _ => 0)))), (q2, .inl (cI, 256, (.inl (fun _ => 0)))), (q4, .inl (cB, n * 64, (.inl (fun _ => 0)))), (q5, .inl (cZ, n, (.inl (fun _ => 0))))] H := hP
  have hD : va_D A [(h0, .inr (5, [.int (nI n), .ref q4, .null, .ref q1, .int 0, .ref q2, .int 0])), (q1, .inl (cI, 16, (.inl (fun _ => 0)))), (q2, .inl (cI, 256, (.inl (fun _ => 0)))), (q4, .inl (cB, n * 64, (.inl (fun _ => 0)))), (q5, .inl (cZ, n, (.inl (fun _ => 0))))] := hD
  refine W.widen (k := 4) (n := 8592) (by decide) (by omega) ?_
  refine va_putF (D := (dC, dI)) (ci := 5) (v := .ref q5) (ty := .array (.boolean)) (C := RX5) (T := TX5) (N := 7) hx hb hts inq_X5_init_c5 tyX5 tyX5_ok nmX5 hown hK hP hD hS 0 rfl rfl 2 (by decide) (hts (.fieldLink RX5 26 "DiskEvidence$Picture" "spoilt" "[Z") (List.mem_of_getElem? (i := 11) rfl)) (fun _ h9 => h9) rfl hin rfl (by decide +kernel) rfl rfl (Nat.le_of_ble_eq_true rfl) dX5_init_40 (fun H locs hP hD hS => ?_)
  have hP : va_P (dC, dI) vwCl [(h0, .inr (5, [.int (nI n), .ref q4, .ref q5, .ref q1, .int 0, .ref q2, .int 0])), (q1, .inl (cI, 16, (.inl (fun _ => 0)))), (q2, .inl (cI, 256, (.inl (fun _ => 0)))), (q4, .inl (cB, n * 64, (.inl (fun _ => 0)))), (q5, .inl (cZ, n, (.inl (fun _ => 0))))] H := hP
  have hD : va_D A [(h0, .inr (5, [.int (nI n), .ref q4, .ref q5, .ref q1, .int 0, .ref q2, .int 0])), (q1, .inl (cI, 16, (.inl (fun _ => 0)))), (q2, .inl (cI, 256, (.inl (fun _ => 0)))), (q4, .inl (cB, n * 64, (.inl (fun _ => 0)))), (q5, .inl (cZ, n, (.inl (fun _ => 0))))] := hD
  have hP9 := hP.sub (ws' := [(h0, .inr (5, [.int (nI n), .ref q4, .ref q5, .ref q1, .int 0, .ref q2, .int 0]))]) [0] rfl
  have hD9 := hD.sub (ws' := [(h0, .inr (5, [.int (nI n), .ref q4, .ref q5, .ref q1, .int 0, .ref q2, .int 0]))]) [0] (by decide) rfl
  exact W.vret hx hb hr (fun t ht hW => ⟨⟨[.int (nI n), .ref q4, .ref q5, .ref q1, .int 0, .ref q2, .int 0], rfl, trivial, by rw [ht]; exact hP9, hD9⟩, hS.F ht⟩) hS.2.2 dX5_init_43
def dq_X11_blank : List Cond := [.fieldLink RX11 85 "DiskEvidence" "pictureCount" "I", .fieldLink RX11 15 "DiskEvidence" "pictures" "[LDiskEvidence$Picture;", .classLink RX11 13 RX5, .instantiable RX5 7, .initialized RX5, .methodLink RX11 88 yX5_init, .instanceMethod yX5_init]
def wq_X11_blank : List Cond := .code yX11_blank cX11_blank 2 (some .int) :: (dq_X11_blank ++ (wsX110 ++ (wsX50 ++ (wq_X5_init))))
theorem inq_X11_blank_c11 : ∀ w ∈ wsX110, w ∈ wq_X11_blank := fun w h => List.mem_cons_of_mem _ (List.mem_append_right _ (List.mem_append_left _ h))
theorem inq_X11_blank_c5 : ∀ w ∈ wsX50, w ∈ wq_X11_blank := fun w h => List.mem_cons_of_mem _ (List.mem_append_right _ (List.mem_append_right _ (List.mem_append_left _ h)))
theorem mq_X11_blank_X5_init : ∀ w ∈ wq_X5_init, w ∈ wq_X11_blank := fun w h => List.mem_cons_of_mem _ (List.mem_append_right _ (List.mem_append_right _ (List.mem_append_right _ (h))))
theorem ga_X11_blank : wq_X11_blank.all goodWord = true := by decide +kernel
theorem gq_X11_blank_X5_init_n88 : GoodIn wq_X11_blank wq_X5_init := (goodIn_sub mq_X11_blank_X5_init ga_X5_init)
theorem tdq_X11_blank : ∀ w ∈ dq_X11_blank, w ∈ lw_tbl := fun w h => (goodIn_r (big := lw_tbl) dq_X11_blank [590, 589, 318, 665, 297, 666, 667] (by decide +kernel) (by decide +kernel) w h).1
theorem tq_X11_blank : ∀ w ∈ wq_X11_blank, w ∈ lw_tbl := fun w h => (List.mem_cons.mp h).elim (fun e => by rw [e]; exact List.mem_of_getElem? (i := 664) (by decide +kernel)) (fun h => (List.mem_append.mp h).elim (fun h => tdq_X11_blank w h) (fun h => (List.mem_append.mp h).elim (fun h => nX11 w h) (fun h => (List.mem_append.mp h).elim (fun h => nX5 w h) (fun h => tq_X5_init w h))))
set_option maxHeartbeats 40000000 in
set_option maxRecDepth 100000 in
theorem c_X11_blank (l : Launch) (dC : Nat → ClassId) (dI : Nat → Nat → Nat) (cI cB cZ cJ cC cP cV cT cO : ClassId) (sz : Nat) (h0 : Nat) (g : Nat → Nat) (fp : Nat → Option Nat) (p0 : Int32) : Met l yX11_blank wq_X11_blank ({ frames := 2, cells := 5, slots := 8599, locals := 33 }) (va_Pc [.ref h0, .int p0] (fun U => U.heap.size = sz ∧ va_P (dC, dI) vwCl [(h0, .inr (11, (fsX g))), ((g 3), .inl (cP, 6, (.inr (.inr (.inr (.inr (fp)))))))] U.heap ∧ va_K (dC, dI) vwCl [(cI, .int), (cB, .byte), (cZ, .boolean), (cJ, .long), (cC, .char), (cP, .object "DiskEvidence$Picture"), (cV, .object "DiskEvidence$Volume"), (cT, .object "DiskEvidence$Tree"), (cO, .object "DiskEvidence$Opening")] U ∧ va_D (fun _ => True) [(h0, .inr (11, (fsX g))), ((g 3), .inl (cP, 6, (.inr (.inr (.inr (.inr (fp)))))))])) (va_Qi (fun (r : Int32) (_ : Unit) => r = blankS p0) (fun _ _ => True) (va_A [(h0, .inr (11, (fsX g))), ((g 3), .inl (cP, 6, (.inr (.inr (.inr (.inr (fp)))))))] sz)) 5 8599 (va_A [(h0, .inr (11, (fsX g))), ((g 3), .inl (cP, 6, (.inr (.inr (.inr (.inr (fp)))))))] sz) := by
  refine Met.ofW (cc := cX11_blank) (maxL := 2) (ret := (some .int)) (by decide) rfl ?_
  intro p e s m args below meth c s₁ B hml hv
  obtain ⟨rfl, hsz, hP, hK, hD0⟩ := hv
  have hx := B.exec
  have hb := B.bytes
  have hr := B.returns
  have hts := atoms_spec (ws := wq_X11_blank) B.pre
  have hown : s.vm.findClass RX11 = some m.cls := findClass_of_methodNamed B.named
  have hlocks := B.notSynchronized
  subst hsz
  have hD := hD0.self (sz := s.heap.size)
  generalize hAe : va_A [(h0, .inr (11, (fsX g))), ((g 3), .inl (cP, 6, (.inr (.inr (.inr (.inr (fp)))))))] s.heap.size = A at hD ⊢
  have hA : ∀ q : Nat, s.heap.size ≤ q → A q := fun q h => by rw [← hAe]; exact Or.inr h
  have hS : va_S A s.heap s.heap [] := va_S.rf
  have hl := lv_entry ([.ref h0, .int p0]) (n := 2) (Nat.le_of_ble_eq_true rfl)
  rw [lg_entry_eq]
  generalize (lg_sl ([.ref h0, .int p0]) ++ List.replicate (2 - (lg_sl ([.ref h0, .int p0])).length) Slot.unset).toArray = ls at hl ⊢
  have hl : lv_has ls 2 [(0, .ref h0), (1, .int p0)] := hl
  refine lv_iload_n hx hb dX11_blank_0 rfl (lv_at hl 1 rfl) ?_
  refine lv_iconst (v := 1) hx hb dX11_blank_1 (by decide) ?_
  refine lv_icmp_lt (tgt := 12) hx hb dX11_blank_2 (by decide) (fun c_1 => ?_) (fun c_1 => ?_)
  · refine lv_bipush (v := (-2)) hx hb dX11_blank_12 (by decide) ?_
    refine W.widen (k := 5) (n := 8599) (by decide) (by decide) ?_
    exact W.iret (v := (-2)) hx hb hr (fun t ht hW => ⟨⟨(-2), (), rfl, (if_neg (fun h => absurd c_1 (Int32.not_lt.mpr h.1))).symm, trivial⟩, hS.F ht⟩) hS.2.2 dX11_blank_14
  · refine lv_iload_n hx hb dX11_blank_5 rfl (lv_at hl 1 rfl) ?_
    refine lv_sipush (v := 128) hx hb dX11_blank_6 (by decide) ?_
    refine lv_icmp_le (tgt := 15) hx hb dX11_blank_9 (by decide) (fun c_2 => ?_) (fun c_2 => ?_)
    · obtain ⟨n, hn, rfl⟩ := upto (n := 128) (by decide) (Int32.not_lt.mp c_1) c_2
      refine lv_aload_n hx hb dX11_blank_15 rfl (lv_at hl 0 rfl) ?_
      refine va_get (D := (dC, dI)) (ci := 11) (v := .int 0) (C := RX11) (T := TX11) (N := 20) hx hb hts inq_X11_blank_c11 hown hK hP 0 rfl rfl 4 (by decide) (hts (.fieldLink RX11 85 "DiskEvidence" "pictureCount" "I") (List.mem_of_getElem? (i := 1) rfl)) (fun _ h9 => h9) rfl dX11_blank_16 ?_
      refine lv_bipush (v := 6) hx hb dX11_blank_19 (by decide) ?_
      refine lv_icmp_lt (tgt := 27) hx hb dX11_blank_21 (by decide) (fun _ => ?_) (fun c_3 => absurd (by decide) c_3)
      refine lv_aload_n hx hb dX11_blank_27 rfl (lv_at hl 0 rfl) ?_
      refine va_get (D := (dC, dI)) (ci := 11) (v := .ref (g 3)) (C := RX11) (T := TX11) (N := 20) hx hb hts inq_X11_blank_c11 hown hK hP 0 rfl rfl 3 (by decide) (hts (.fieldLink RX11 15 "DiskEvidence" "pictures" "[LDiskEvidence$Picture;") (List.mem_of_getElem? (i := 2) rfl)) (fun _ h9 => h9) rfl dX11_blank_28 ?_
      refine lv_aload_n hx hb dX11_blank_31 rfl (lv_at hl 0 rfl) ?_
      refine va_get (D := (dC, dI)) (ci := 11) (v := .int 0) (C := RX11) (T := TX11) (N := 20) hx hb hts inq_X11_blank_c11 hown hK hP 0 rfl rfl 4 (by decide) (hts (.fieldLink RX11 85 "DiskEvidence" "pictureCount" "I") (List.mem_of_getElem? (i := 1) rfl)) (fun _ h9 => h9) rfl dX11_blank_32 ?_
      refine va_new (ci := 5) (fs := [.int 0, .null, .null, .null, .int 0, .null, .int 0]) (C := RX5) (T := TX5) (N := 7) hx hb hts inq_X11_blank_c5 tyX5 tyX5_ok hown (hts (.classLink RX11 13 RX5) (List.mem_of_getElem? (i := 3) rfl)) (hts (.instantiable RX5 7) (List.mem_of_getElem? (i := 4) rfl)) (hts (.initialized RX5) (List.mem_of_getElem? (i := 5) rfl)) hK hP hD hS hA rfl (by decide +kernel) (Nat.le_of_ble_eq_true rfl) (Nat.le_of_ble_eq_true rfl) dX11_blank_35 (fun q4 H hP hD hS => ?_)
      have hP : va_P (dC, dI) vwCl [(h0, .inr (11, (fsX g))), ((g 3), .inl (cP, 6, (.inr (.inr (.inr (.inr (fp))))))), (q4, .inr (5, [.int 0, .null, .null, .null, .int 0, .null, .int 0]))] H := hP
      have hD : va_D A [(h0, .inr (11, (fsX g))), ((g 3), .inl (cP, 6, (.inr (.inr (.inr (.inr (fp))))))), (q4, .inr (5, [.int 0, .null, .null, .null, .int 0, .null, .int 0]))] := hD
      refine W.widen (k := 1) (n := 7) (by decide) (by decide) ?_
      refine lv_dup hx hb dX11_blank_38 rfl ?_
      refine lv_iload_n hx hb dX11_blank_39 rfl (lv_at hl 1 rfl) ?_
      have hPc := hP.sub (ws' := [(q4, .inr (5, [.int 0, .null, .null, .null, .int 0, .null, .int 0]))]) [2] rfl
      have hDc := hD.sub (ws' := [(q4, .inr (5, [.int 0, .null, .null, .null, .int 0, .null, .int 0]))]) [2] (by decide) rfl
      have hKc := hK
      have hFc := va_free (wc := [(q4, .inr (5, [.int 0, .null, .null, .null, .int 0, .null, .int 0]))]) hD hS hA [2] rfl
      refine va_callv (va_runI (As := [.int (nI n)]) (rest := [.ref q4, .int 0, .ref (g 3)]) ⟨hx, hb, hml, hown, hts⟩ (c_X5_init l dC dI cI cB cZ cJ cC cP cV cT cO H.size q4 n hn) (cwI 1 hts gq_X11_blank_X5_init_n88 rfl rfl rfl (hts (.initialized RX5) (List.mem_of_getElem? (i := 5) rfl)) (hts (.methodLink RX11 88 yX5_init) (List.mem_of_getElem? (i := 6) rfl)) (hts (.instanceMethod yX5_init) (List.mem_of_getElem? (i := 7) rfl)) rfl (by decide +kernel) ⟨Nat.le_of_ble_eq_true rfl, Nat.le_of_ble_eq_true rfl⟩) ⟨fun a U g mk q => by obtain ⟨q0, q1, qP, qK, qD⟩ := q; exact ⟨q0, q1, qP, va_K.moved (u := U) (U := U.calling g mk a) (Vm.Alike.refl U.vm) qK, qD⟩, fun U hU hW => ⟨rfl, by rw [hU], by rw [hU]; exact hPc, va_K.moved hW.alike hKc, hDc.weaken (fun _ _ _ _ => trivial)⟩⟩ rfl rfl hl.1 rfl (lv_room (Nat.le_of_ble_eq_true rfl)) dX11_blank_40 ⟨Nat.le_of_ble_eq_true rfl, Nat.le_of_ble_eq_true rfl⟩) hS (fun q _ h => hFc q h) hFc (fun u_5 t H1 locs ht hvm _ hB hz1 hk1 hS => ?_)
      obtain ⟨hP1, hD1⟩ := hB
      rw [ht] at hP1
      obtain ⟨hP, hD⟩ := va_join (wr := [(h0, .inr (11, (fsX g))), ((g 3), .inl (cP, 6, (.inr (.inr (.inr (.inr (fp)))))))]) (w1 := [(q4, .inr (5, u_5))]) hP hD [2] [0, 1] rfl rfl (by decide) (by decide) hk1 hFc hP1 hD1
      generalize H1 = H at hP hS ⊢
      have hP : va_P (dC, dI) vwCl [(h0, .inr (11, (fsX g))), ((g 3), .inl (cP, 6, (.inr (.inr (.inr (.inr (fp))))))), (q4, .inr (5, u_5))] H := hP
      have hD : va_D A [(h0, .inr (11, (fsX g))), ((g 3), .inl (cP, 6, (.inr (.inr (.inr (.inr (fp))))))), (q4, .inr (5, u_5))] := hD
      refine W.widen (k := 5) (n := 8599) (by decide) (by decide) ?_
      refine va_astq (r := (RX5, TX5, 7)) hx hb hK hP hD hS 1 5 2 5 rfl rfl rfl rfl (vp_in_nI (n := 0) (N := 6) (by decide) (by decide)) dX11_blank_43 (fun H locs hP hD hS => ?_)
      have hP : va_P (dC, dI) vwCl [(h0, .inr (11, (fsX g))), ((g 3), .inl (cP, 6, (.inr (.inr (.inr (.inr (va_up (fp) (0 : Int32).toNatClampNeg (some q4)))))))), (q4, .inr (5, u_5))] H := hP
      have hD : va_D A [(h0, .inr (11, (fsX g))), ((g 3), .inl (cP, 6, (.inr (.inr (.inr (.inr (va_up (fp) (0 : Int32).toNatClampNeg (some q4)))))))), (q4, .inr (5, u_5))] := hD
      refine lv_aload_n hx hb dX11_blank_44 rfl (lv_at hl 0 rfl) ?_
      refine lv_dup hx hb dX11_blank_45 rfl ?_
      refine va_get (D := (dC, dI)) (ci := 11) (v := .int 0) (C := RX11) (T := TX11) (N := 20) hx hb hts inq_X11_blank_c11 hown hK hP 0 rfl rfl 4 (by decide) (hts (.fieldLink RX11 85 "DiskEvidence" "pictureCount" "I") (List.mem_of_getElem? (i := 1) rfl)) (fun _ h9 => h9) rfl dX11_blank_46 ?_
      refine lv_dup_x1 hx hb dX11_blank_49 rfl rfl ?_
      refine lv_iconst (v := 1) hx hb dX11_blank_50 (by decide) ?_
      refine lv_iadd hx hb dX11_blank_51 ?_
      refine lv_topi (fun f_6 ef_6 => ?_)
      obtain rfl : (1 : Int32) = f_6 := (ef_6.trans (by decide)).symm
      refine va_put (D := (dC, dI)) (ci := 11) (v := .int 1) (ty := .int) (C := RX11) (T := TX11) (N := 20) hx hb hts inq_X11_blank_c11 tyX11 tyX11_ok nmX11 hown hK hP hD hS 0 rfl rfl 4 (by decide) (hts (.fieldLink RX11 85 "DiskEvidence" "pictureCount" "I") (List.mem_of_getElem? (i := 1) rfl)) (fun _ h9 => h9) rfl (by decide +kernel) rfl rfl (Nat.le_of_ble_eq_true rfl) dX11_blank_52 (fun H locs hP hD hS => ?_)
      have hP : va_P (dC, dI) vwCl [(h0, .inr (11, ((fsX g).set 4 (.int 1)))), ((g 3), .inl (cP, 6, (.inr (.inr (.inr (.inr (va_up (fp) (0 : Int32).toNatClampNeg (some q4)))))))), (q4, .inr (5, u_5))] H := hP
      have hD : va_D A [(h0, .inr (11, ((fsX g).set 4 (.int 1)))), ((g 3), .inl (cP, 6, (.inr (.inr (.inr (.inr (va_up (fp) (0 : Int32).toNatClampNeg (some q4)))))))), (q4, .inr (5, u_5))] := hD
      exact W.iret (v := 0) hx hb hr (fun t ht hW => ⟨⟨0, (), rfl, (if_pos ⟨Int32.not_lt.mp c_1, c_2⟩).symm, trivial⟩, hS.F ht⟩) hS.2.2 dX11_blank_55
    · refine lv_bipush (v := (-2)) hx hb dX11_blank_12 (by decide) ?_
      refine W.widen (k := 5) (n := 8599) (by decide) (by decide) ?_
      exact W.iret (v := (-2)) hx hb hr (fun t ht hW => ⟨⟨(-2), (), rfl, (if_neg (fun h => absurd h.2 c_2)).symm, trivial⟩, hS.F ht⟩) hS.2.2 dX11_blank_14
def dq_X12_begin : List Cond := [.fieldLink RX12 393 "DiskEvidenceModel" "pictures" "I", .fieldLink RX12 13 "DiskEvidenceModel" "sectorsOf" "[I", .fieldLink RX12 20 "DiskEvidenceModel" "isSpoilt" "[Z", .fieldLink RX12 17 "DiskEvidenceModel" "data" "[I"]
def wq_X12_begin : List Cond := .code yX12_begin cX12_begin 4 (some .int) :: (dq_X12_begin ++ (wsX120))
theorem inq_X12_begin_c12 : ∀ w ∈ wsX120, w ∈ wq_X12_begin := fun w h => List.mem_cons_of_mem _ (List.mem_append_right _ (h))
theorem ga_X12_begin : wq_X12_begin.all goodWord = true := by decide +kernel
theorem tdq_X12_begin : ∀ w ∈ dq_X12_begin, w ∈ lw_tbl := fun w h => (goodIn_r (big := lw_tbl) dq_X12_begin [2252, 2253, 2255, 2254] (by decide +kernel) (by decide +kernel) w h).1
theorem tq_X12_begin : ∀ w ∈ wq_X12_begin, w ∈ lw_tbl := fun w h => (List.mem_cons.mp h).elim (fun e => by rw [e]; exact List.mem_of_getElem? (i := 2794) (by decide +kernel)) (fun h => (List.mem_append.mp h).elim (fun h => tdq_X12_begin w h) (fun h => nX12 w h))
set_option maxHeartbeats 40000000 in
set_option maxRecDepth 100000 in
theorem c_X12_begin (l : Launch) (dC : Nat → ClassId) (dI : Nat → Nat → Nat) (cI cB cZ cJ cC cP cV cT cO : ClassId) (sz : Nat) (h0 : Nat) (g : Nat → Nat) (f4 f5 f6 : Nat → Int32) (p0 : Int32) : Met l yX12_begin wq_X12_begin ({ frames := 0, cells := 0, slots := 0, locals := 0 }) (va_Pc [.ref h0, .int p0] (fun U => U.heap.size = sz ∧ va_P (dC, dI) vwCl [(h0, .inr (12, (fsM g))), ((g 4), .inl (cI, 6, (.inl (f4)))), ((g 5), .inl (cI, 49152, (.inl (f5)))), ((g 6), .inl (cZ, 768, (.inl (f6))))] U.heap ∧ va_K (dC, dI) vwCl [(cI, .int), (cB, .byte), (cZ, .boolean), (cJ, .long), (cC, .char), (cP, .object "DiskEvidence$Picture"), (cV, .object "DiskEvidence$Volume"), (cT, .object "DiskEvidence$Tree"), (cO, .object "DiskEvidence$Opening")] U ∧ va_D (fun _ => True) [(h0, .inr (12, (fsM g))), ((g 4), .inl (cI, 6, (.inl (f4)))), ((g 5), .inl (cI, 49152, (.inl (f5)))), ((g 6), .inl (cZ, 768, (.inl (f6))))])) (va_Qi (fun (r : Int32) (_ : Unit) => r = 0) (fun _ _ => True) (va_A [(h0, .inr (12, (fsM g))), ((g 4), .inl (cI, 6, (.inl (f4)))), ((g 5), .inl (cI, 49152, (.inl (f5)))), ((g 6), .inl (cZ, 768, (.inl (f6))))] sz)) 0 0 (va_A [(h0, .inr (12, (fsM g))), ((g 4), .inl (cI, 6, (.inl (f4)))), ((g 5), .inl (cI, 49152, (.inl (f5)))), ((g 6), .inl (cZ, 768, (.inl (f6))))] sz) := by
  refine Met.ofW (cc := cX12_begin) (maxL := 4) (ret := (some .int)) (by decide) rfl ?_
  intro p e s m args below meth c s₁ B hml hv
  obtain ⟨rfl, hsz, hP, hK, hD0⟩ := hv
  have hx := B.exec
  have hb := B.bytes
  have hr := B.returns
  have hts := atoms_spec (ws := wq_X12_begin) B.pre
  have hown : s.vm.findClass RX12 = some m.cls := findClass_of_methodNamed B.named
  have hlocks := B.notSynchronized
  subst hsz
  have hD := hD0.self (sz := s.heap.size)
  generalize hAe : va_A [(h0, .inr (12, (fsM g))), ((g 4), .inl (cI, 6, (.inl (f4)))), ((g 5), .inl (cI, 49152, (.inl (f5)))), ((g 6), .inl (cZ, 768, (.inl (f6))))] s.heap.size = A at hD ⊢
  have hA : ∀ q : Nat, s.heap.size ≤ q → A q := fun q h => by rw [← hAe]; exact Or.inr h
  have hS : va_S A s.heap s.heap [] := va_S.rf
  have hl := lv_entry ([.ref h0, .int p0]) (n := 4) (Nat.le_of_ble_eq_true rfl)
  rw [lg_entry_eq]
  generalize (lg_sl ([.ref h0, .int p0]) ++ List.replicate (4 - (lg_sl ([.ref h0, .int p0])).length) Slot.unset).toArray = ls at hl ⊢
  have hl : lv_has ls 4 [(0, .ref h0), (1, .int p0)] := hl
  refine lv_aload_n hx hb dX12_begin_0 rfl (lv_at hl 0 rfl) ?_
  refine va_get (D := (dC, dI)) (ci := 12) (v := .int 0) (C := RX12) (T := TX12) (N := 172) hx hb hts inq_X12_begin_c12 hown hK hP 0 rfl rfl 3 (by decide) (hts (.fieldLink RX12 393 "DiskEvidenceModel" "pictures" "I") (List.mem_of_getElem? (i := 1) rfl)) (fun _ h9 => h9) rfl dX12_begin_1 ?_
  refine lv_istore_n (lv' := [(2, .int 0), (0, .ref h0), (1, .int p0)]) hx hb dX12_begin_4 rfl hl (by decide) rfl (fun ls hl => ?_)
  refine lv_aload_n hx hb dX12_begin_5 rfl (lv_at hl 1 rfl) ?_
  refine va_get (D := (dC, dI)) (ci := 12) (v := .ref (g 4)) (C := RX12) (T := TX12) (N := 172) hx hb hts inq_X12_begin_c12 hown hK hP 0 rfl rfl 4 (by decide) (hts (.fieldLink RX12 13 "DiskEvidenceModel" "sectorsOf" "[I") (List.mem_of_getElem? (i := 2) rfl)) (fun _ h9 => h9) rfl dX12_begin_6 ?_
  refine lv_iload_n hx hb dX12_begin_9 rfl (lv_at hl 0 rfl) ?_
  refine lv_iload_n hx hb dX12_begin_10 rfl (lv_at hl 2 rfl) ?_
  refine va_iast hx hb hK hP hD hS 1 0 rfl rfl (vp_in_nI (n := 0) (N := 6) (by decide) (by decide)) dX12_begin_11 (fun H locs hP hD hS => ?_)
  obtain ⟨g_1, eg_1⟩ : ∃ y, y = upd (f4) (0 : Int32).toNatClampNeg p0 := ⟨_, rfl⟩
  rw [← eg_1] at hP hD
  have hP : va_P (dC, dI) vwCl [(h0, .inr (12, (fsM g))), ((g 4), .inl (cI, 6, (.inl (g_1)))), ((g 5), .inl (cI, 49152, (.inl (f5)))), ((g 6), .inl (cZ, 768, (.inl (f6))))] H := hP
  have hD : va_D A [(h0, .inr (12, (fsM g))), ((g 4), .inl (cI, 6, (.inl (g_1)))), ((g 5), .inl (cI, 49152, (.inl (f5)))), ((g 6), .inl (cZ, 768, (.inl (f6))))] := hD
  refine lv_iconst (v := 0) hx hb dX12_begin_12 (by decide) ?_
  refine lv_istore_n (lv' := [(3, .int 0), (2, .int 0), (0, .ref h0), (1, .int p0)]) hx hb dX12_begin_13 rfl hl (by decide) rfl (fun ls hl => ?_)
  refine nw_loop (fun d H locs ls => ∃ (j_2 : Nat) (g_2 : Nat → Int32), j_2 + d = 8192 ∧ va_P (dC, dI) vwCl [(h0, .inr (12, (fsM g))), ((g 4), .inl (cI, 6, (.inl (g_1)))), ((g 5), .inl (cI, 49152, (.inl (g_2)))), ((g 6), .inl (cZ, 768, (.inl (f6))))] H ∧ va_D A [(h0, .inr (12, (fsM g))), ((g 4), .inl (cI, 6, (.inl (g_1)))), ((g 5), .inl (cI, 49152, (.inl (g_2)))), ((g 6), .inl (cZ, 768, (.inl (f6))))] ∧ va_S A s.heap H locs ∧ lv_has ls 4 [(3, .int (nI j_2)), (2, .int 0), (0, .ref h0), (1, .int p0)]) 8192 ?_ ?_ _ _ _ ⟨0, _, Nat.zero_add _, hP, hD, hS, lv_sub hl [0, 1, 2, 3] rfl⟩
  · intro H locs ls hI
    obtain ⟨j_2, g_2, hj_2, hP, hD, hS, hl⟩ := hI
    obtain rfl : 8192 = j_2 := by omega
    refine lv_iload_n hx hb dX12_begin_14 rfl (lv_at hl 0 rfl) ?_
    refine lv_sipush (v := 8192) hx hb dX12_begin_15 (by decide) ?_
    refine lv_icmp_ge (tgt := 40) hx hb dX12_begin_18 (by decide) (fun _ => ?_) (fun c_3 => absurd (by decide) c_3)
    refine lv_iconst (v := 0) hx hb dX12_begin_40 (by decide) ?_
    refine lv_istore_n (lv' := [(3, .int 0), (2, .int 0), (0, .ref h0), (1, .int p0)]) hx hb dX12_begin_41 rfl hl (by decide) rfl (fun ls hl => ?_)
    refine nw_loop (fun d H locs ls => ∃ (j_4 : Nat) (g_4 : Nat → Int32), j_4 + d = 128 ∧ va_P (dC, dI) vwCl [(h0, .inr (12, (fsM g))), ((g 4), .inl (cI, 6, (.inl (g_1)))), ((g 5), .inl (cI, 49152, (.inl (g_2)))), ((g 6), .inl (cZ, 768, (.inl (g_4))))] H ∧ va_D A [(h0, .inr (12, (fsM g))), ((g 4), .inl (cI, 6, (.inl (g_1)))), ((g 5), .inl (cI, 49152, (.inl (g_2)))), ((g 6), .inl (cZ, 768, (.inl (g_4))))] ∧ va_S A s.heap H locs ∧ lv_has ls 4 [(3, .int (nI j_4)), (2, .int 0), (0, .ref h0), (1, .int p0)]) 128 ?_ ?_ _ _ _ ⟨0, _, Nat.zero_add _, hP, hD, hS, lv_sub hl [0, 1, 2, 3] rfl⟩
    · intro H locs ls hI
      obtain ⟨j_4, g_4, hj_4, hP, hD, hS, hl⟩ := hI
      obtain rfl : 128 = j_4 := by omega
      refine lv_iload_n hx hb dX12_begin_42 rfl (lv_at hl 0 rfl) ?_
      refine lv_sipush (v := 128) hx hb dX12_begin_43 (by decide) ?_
      refine lv_icmp_ge (tgt := 68) hx hb dX12_begin_46 (by decide) (fun _ => ?_) (fun c_5 => absurd (by decide) c_5)
      refine lv_aload_n hx hb dX12_begin_68 rfl (lv_at hl 2 rfl) ?_
      refine lv_dup hx hb dX12_begin_69 rfl ?_
      refine va_get (D := (dC, dI)) (ci := 12) (v := .int 0) (C := RX12) (T := TX12) (N := 172) hx hb hts inq_X12_begin_c12 hown hK hP 0 rfl rfl 3 (by decide) (hts (.fieldLink RX12 393 "DiskEvidenceModel" "pictures" "I") (List.mem_of_getElem? (i := 1) rfl)) (fun _ h9 => h9) rfl dX12_begin_70 ?_
      refine lv_iconst (v := 1) hx hb dX12_begin_73 (by decide) ?_
      refine lv_iadd hx hb dX12_begin_74 ?_
      refine lv_topi (fun f_6 ef_6 => ?_)
      obtain rfl : (1 : Int32) = f_6 := (ef_6.trans (by decide)).symm
      refine va_put (D := (dC, dI)) (ci := 12) (v := .int 1) (ty := .int) (C := RX12) (T := TX12) (N := 172) hx hb hts inq_X12_begin_c12 tyX12 tyX12_ok nmX12 hown hK hP hD hS 0 rfl rfl 3 (by decide) (hts (.fieldLink RX12 393 "DiskEvidenceModel" "pictures" "I") (List.mem_of_getElem? (i := 1) rfl)) (fun _ h9 => h9) rfl (by decide +kernel) rfl rfl (Nat.le_of_ble_eq_true rfl) dX12_begin_75 (fun H locs hP hD hS => ?_)
      have hP : va_P (dC, dI) vwCl [(h0, .inr (12, ((fsM g).set 3 (.int 1)))), ((g 4), .inl (cI, 6, (.inl (g_1)))), ((g 5), .inl (cI, 49152, (.inl (g_2)))), ((g 6), .inl (cZ, 768, (.inl (g_4))))] H := hP
      have hD : va_D A [(h0, .inr (12, ((fsM g).set 3 (.int 1)))), ((g 4), .inl (cI, 6, (.inl (g_1)))), ((g 5), .inl (cI, 49152, (.inl (g_2)))), ((g 6), .inl (cZ, 768, (.inl (g_4))))] := hD
      refine lv_iload_n hx hb dX12_begin_78 rfl (lv_at hl 1 rfl) ?_
      exact W.iret (v := 0) hx hb hr (fun t ht hW => ⟨⟨0, (), rfl, rfl, trivial⟩, hS.F ht⟩) hS.2.2 dX12_begin_79
    · intro d ih H locs ls hI
      obtain ⟨j_4, g_4, hj_4, hP, hD, hS, hl⟩ := hI
      refine lv_iload_n hx hb dX12_begin_42 rfl (lv_at hl 0 rfl) ?_
      refine lv_sipush (v := 128) hx hb dX12_begin_43 (by decide) ?_
      refine lv_icmp_ge (tgt := 68) hx hb dX12_begin_46 (by decide) (fun c_7 => absurd c_7 (nI_ge (a := j_4) (b := 128) (by omega) (by omega))) (fun _ => ?_)
      refine lv_aload_n hx hb dX12_begin_49 rfl (lv_at hl 2 rfl) ?_
      refine va_get (D := (dC, dI)) (ci := 12) (v := .ref (g 6)) (C := RX12) (T := TX12) (N := 172) hx hb hts inq_X12_begin_c12 hown hK hP 0 rfl rfl 6 (by decide) (hts (.fieldLink RX12 20 "DiskEvidenceModel" "isSpoilt" "[Z") (List.mem_of_getElem? (i := 3) rfl)) (fun _ h9 => h9) rfl dX12_begin_50 ?_
      refine lv_sipush (v := 128) hx hb dX12_begin_53 (by decide) ?_
      refine lv_iload_n hx hb dX12_begin_56 rfl (lv_at hl 1 rfl) ?_
      refine lv_imul hx hb dX12_begin_57 ?_
      refine lv_topi (fun f_8 ef_8 => ?_)
      obtain rfl : (0 : Int32) = f_8 := (ef_8.trans (by decide)).symm
      refine lv_iload_n hx hb dX12_begin_58 rfl (lv_at hl 0 rfl) ?_
      refine lv_iadd hx hb dX12_begin_59 ?_
      refine lv_topi (fun f_9 ef_9 => ?_)
      obtain rfl : (nI j_4) = f_9 := (ef_9.trans (Int32.zero_add _)).symm
      refine lv_iconst (v := 0) hx hb dX12_begin_60 (by decide) ?_
      refine va_zast hx hb hK hP hD hS 3 2 rfl rfl (vp_in_nI (by omega) (by omega)) dX12_begin_61 (fun H locs hP hD hS => ?_)
      obtain ⟨g_10, eg_10⟩ : ∃ y, y = upd (g_4) (nI j_4).toNatClampNeg (vp_nar .boolean 0) := ⟨_, rfl⟩
      rw [← eg_10] at hP hD
      have hP : va_P (dC, dI) vwCl [(h0, .inr (12, (fsM g))), ((g 4), .inl (cI, 6, (.inl (g_1)))), ((g 5), .inl (cI, 49152, (.inl (g_2)))), ((g 6), .inl (cZ, 768, (.inl (g_10))))] H := hP
      have hD : va_D A [(h0, .inr (12, (fsM g))), ((g 4), .inl (cI, 6, (.inl (g_1)))), ((g 5), .inl (cI, 49152, (.inl (g_2)))), ((g 6), .inl (cZ, 768, (.inl (g_10))))] := hD
      refine lv_iinc (v := (nI (j_4 + 1))) (lv' := [(3, .int (nI (j_4 + 1))), (2, .int 0), (0, .ref h0), (1, .int p0)]) hx hb dX12_begin_62 hl (k := 0) rfl (nI_1 _) (by decide) rfl (fun ls hl => ?_)
      refine lv_goto (tgt := 42) hx hb dX12_begin_65 (by decide) ?_
      exact ih _ _ _ ⟨j_4 + 1, _, by omega, hP, hD, hS, lv_sub hl [0, 1, 2, 3] rfl⟩
  · intro d ih H locs ls hI
    obtain ⟨j_2, g_2, hj_2, hP, hD, hS, hl⟩ := hI
    refine lv_iload_n hx hb dX12_begin_14 rfl (lv_at hl 0 rfl) ?_
    refine lv_sipush (v := 8192) hx hb dX12_begin_15 (by decide) ?_
    refine lv_icmp_ge (tgt := 40) hx hb dX12_begin_18 (by decide) (fun c_11 => absurd c_11 (nI_ge (a := j_2) (b := 8192) (by omega) (by omega))) (fun _ => ?_)
    refine lv_aload_n hx hb dX12_begin_21 rfl (lv_at hl 2 rfl) ?_
    refine va_get (D := (dC, dI)) (ci := 12) (v := .ref (g 5)) (C := RX12) (T := TX12) (N := 172) hx hb hts inq_X12_begin_c12 hown hK hP 0 rfl rfl 5 (by decide) (hts (.fieldLink RX12 17 "DiskEvidenceModel" "data" "[I") (List.mem_of_getElem? (i := 4) rfl)) (fun _ h9 => h9) rfl dX12_begin_22 ?_
    refine lv_sipush (v := 8192) hx hb dX12_begin_25 (by decide) ?_
    refine lv_iload_n hx hb dX12_begin_28 rfl (lv_at hl 1 rfl) ?_
    refine lv_imul hx hb dX12_begin_29 ?_
    refine lv_topi (fun f_12 ef_12 => ?_)
    obtain rfl : (0 : Int32) = f_12 := (ef_12.trans (by decide)).symm
    refine lv_iload_n hx hb dX12_begin_30 rfl (lv_at hl 0 rfl) ?_
    refine lv_iadd hx hb dX12_begin_31 ?_
    refine lv_topi (fun f_13 ef_13 => ?_)
    obtain rfl : (nI j_2) = f_13 := (ef_13.trans (Int32.zero_add _)).symm
    refine lv_iconst (v := 0) hx hb dX12_begin_32 (by decide) ?_
    refine va_iast hx hb hK hP hD hS 2 0 rfl rfl (vp_in_nI (by omega) (by omega)) dX12_begin_33 (fun H locs hP hD hS => ?_)
    obtain ⟨g_14, eg_14⟩ : ∃ y, y = upd (g_2) (nI j_2).toNatClampNeg 0 := ⟨_, rfl⟩
    rw [← eg_14] at hP hD
    have hP : va_P (dC, dI) vwCl [(h0, .inr (12, (fsM g))), ((g 4), .inl (cI, 6, (.inl (g_1)))), ((g 5), .inl (cI, 49152, (.inl (g_14)))), ((g 6), .inl (cZ, 768, (.inl (f6))))] H := hP
    have hD : va_D A [(h0, .inr (12, (fsM g))), ((g 4), .inl (cI, 6, (.inl (g_1)))), ((g 5), .inl (cI, 49152, (.inl (g_14)))), ((g 6), .inl (cZ, 768, (.inl (f6))))] := hD
    refine lv_iinc (v := (nI (j_2 + 1))) (lv' := [(3, .int (nI (j_2 + 1))), (2, .int 0), (0, .ref h0), (1, .int p0)]) hx hb dX12_begin_34 hl (k := 0) rfl (nI_1 _) (by decide) rfl (fun ls hl => ?_)
    refine lv_goto (tgt := 14) hx hb dX12_begin_37 (by decide) ?_
    exact ih _ _ _ ⟨j_2 + 1, _, by omega, hP, hD, hS, lv_sub hl [0, 1, 2, 3] rfl⟩
def dq_X12_blank : List Cond := [.constantLong RX12 400 (128), .methodLink RX12 372 yX12_in, .static yX12_in, .initialized RX12, .fieldLink RX12 393 "DiskEvidenceModel" "pictures" "I", .methodLink RX12 402 yX12_begin, .instanceMethod yX12_begin, .selects RX12 yX12_begin yX12_begin]
def wq_X12_blank : List Cond := .code yX12_blank cX12_blank 2 (some .int) :: (dq_X12_blank ++ (wsX120 ++ (wq_X12_in ++ (wq_X12_begin))))
theorem inq_X12_blank_c12 : ∀ w ∈ wsX120, w ∈ wq_X12_blank := fun w h => List.mem_cons_of_mem _ (List.mem_append_right _ (List.mem_append_left _ h))
theorem mq_X12_blank_X12_in : ∀ w ∈ wq_X12_in, w ∈ wq_X12_blank := fun w h => List.mem_cons_of_mem _ (List.mem_append_right _ (List.mem_append_right _ (List.mem_append_left _ h)))
theorem mq_X12_blank_X12_begin : ∀ w ∈ wq_X12_begin, w ∈ wq_X12_blank := fun w h => List.mem_cons_of_mem _ (List.mem_append_right _ (List.mem_append_right _ (List.mem_append_right _ (h))))
theorem ga_X12_blank : wq_X12_blank.all goodWord = true := by decide +kernel
theorem gq_X12_blank_X12_in_372 : GoodIn wq_X12_blank (va_wsS RX12 372 yX12_in wq_X12_in) := goodIn_app (goodIn_r _ [2, 3, 4] (by decide +kernel) (by decide +kernel)) (goodIn_sub mq_X12_blank_X12_in ga_X12_in)
theorem gq_X12_blank_X12_begin_402 : GoodIn wq_X12_blank (wsV RX12 402 RX12 yX12_begin wq_X12_begin) := goodIn_app (goodIn_r _ [6, 7, 8, 4] (by decide +kernel) (by decide +kernel)) (goodIn_sub mq_X12_blank_X12_begin ga_X12_begin)
theorem tdq_X12_blank : ∀ w ∈ dq_X12_blank, w ∈ lw_tbl := fun w h => (goodIn_r (big := lw_tbl) dq_X12_blank [2790, 2772, 2773, 296, 2252, 2791, 2793, 116] (by decide +kernel) (by decide +kernel) w h).1
theorem tq_X12_blank : ∀ w ∈ wq_X12_blank, w ∈ lw_tbl := fun w h => (List.mem_cons.mp h).elim (fun e => by rw [e]; exact List.mem_of_getElem? (i := 2789) (by decide +kernel)) (fun h => (List.mem_append.mp h).elim (fun h => tdq_X12_blank w h) (fun h => (List.mem_append.mp h).elim (fun h => nX12 w h) (fun h => (List.mem_append.mp h).elim (fun h => tq_X12_in w h) (fun h => tq_X12_begin w h))))
set_option maxHeartbeats 40000000 in
set_option maxRecDepth 100000 in
theorem c_X12_blank (l : Launch) (dC : Nat → ClassId) (dI : Nat → Nat → Nat) (cI cB cZ cJ cC cP cV cT cO : ClassId) (sz : Nat) (h0 : Nat) (g : Nat → Nat) (f4 f5 f6 : Nat → Int32) (p0 : Int32) : Met l yX12_blank wq_X12_blank ({ frames := 1, cells := 0, slots := 0, locals := 25 }) (va_Pc [.ref h0, .int p0] (fun U => U.heap.size = sz ∧ va_P (dC, dI) vwCl [(h0, .inr (12, (fsM g))), ((g 4), .inl (cI, 6, (.inl (f4)))), ((g 5), .inl (cI, 49152, (.inl (f5)))), ((g 6), .inl (cZ, 768, (.inl (f6))))] U.heap ∧ va_K (dC, dI) vwCl [(cI, .int), (cB, .byte), (cZ, .boolean), (cJ, .long), (cC, .char), (cP, .object "DiskEvidence$Picture"), (cV, .object "DiskEvidence$Volume"), (cT, .object "DiskEvidence$Tree"), (cO, .object "DiskEvidence$Opening")] U ∧ va_D (fun _ => True) [(h0, .inr (12, (fsM g))), ((g 4), .inl (cI, 6, (.inl (f4)))), ((g 5), .inl (cI, 49152, (.inl (f5)))), ((g 6), .inl (cZ, 768, (.inl (f6))))])) (va_Qi (fun (r : Int32) (_ : Unit) => r = blankS p0) (fun _ _ => True) (va_A [(h0, .inr (12, (fsM g))), ((g 4), .inl (cI, 6, (.inl (f4)))), ((g 5), .inl (cI, 49152, (.inl (f5)))), ((g 6), .inl (cZ, 768, (.inl (f6))))] sz)) 0 0 (va_A [(h0, .inr (12, (fsM g))), ((g 4), .inl (cI, 6, (.inl (f4)))), ((g 5), .inl (cI, 49152, (.inl (f5)))), ((g 6), .inl (cZ, 768, (.inl (f6))))] sz) := by
  refine Met.ofW (cc := cX12_blank) (maxL := 2) (ret := (some .int)) (by decide) rfl ?_
  intro p e s m args below meth c s₁ B hml hv
  obtain ⟨rfl, hsz, hP, hK, hD0⟩ := hv
  have hx := B.exec
  have hb := B.bytes
  have hr := B.returns
  have hts := atoms_spec (ws := wq_X12_blank) B.pre
  have hown : s.vm.findClass RX12 = some m.cls := findClass_of_methodNamed B.named
  have hlocks := B.notSynchronized
  subst hsz
  have hD := hD0.self (sz := s.heap.size)
  generalize hAe : va_A [(h0, .inr (12, (fsM g))), ((g 4), .inl (cI, 6, (.inl (f4)))), ((g 5), .inl (cI, 49152, (.inl (f5)))), ((g 6), .inl (cZ, 768, (.inl (f6))))] s.heap.size = A at hD ⊢
  have hA : ∀ q : Nat, s.heap.size ≤ q → A q := fun q h => by rw [← hAe]; exact Or.inr h
  have hS : va_S A s.heap s.heap [] := va_S.rf
  have hl := lv_entry ([.ref h0, .int p0]) (n := 2) (Nat.le_of_ble_eq_true rfl)
  rw [lg_entry_eq]
  generalize (lg_sl ([.ref h0, .int p0]) ++ List.replicate (2 - (lg_sl ([.ref h0, .int p0])).length) Slot.unset).toArray = ls at hl ⊢
  have hl : lv_has ls 2 [(0, .ref h0), (1, .int p0)] := hl
  refine lv_iload_n hx hb dX12_blank_0 rfl (lv_at hl 1 rfl) ?_
  refine lv_i2l hx hb dX12_blank_1 rfl ?_
  refine lv_lconst (v := 1) hx hb dX12_blank_2 (by decide) ?_
  refine lv_ldc2 (v := 128) hx hb hown (hts (.constantLong RX12 400 (128)) (List.mem_of_getElem? (i := 1) rfl)) dX12_blank_3 ?_
  refine vp_callSi (va_Run.run (va_runS (As := [.long p0.toInt64, .long 1, .long 128]) (rest := []) ⟨hx, hb, hml, hown, hts⟩ (c_X12_in l p0.toInt64 1 128) (va_cwS 3 hts gq_X12_blank_X12_in_372 rfl rfl rfl (by decide +kernel) ⟨Nat.le_of_ble_eq_true rfl, Nat.le_of_ble_eq_true rfl⟩) ⟨fun a U g mk q => q, fun U hU hW => ⟨rfl, trivial⟩⟩ rfl rfl hl.1 rfl (lv_room (Nat.le_of_ble_eq_true rfl)) dX12_blank_6 ⟨Nat.le_of_ble_eq_true rfl, Nat.le_of_ble_eq_true rfl⟩)) (fun r_1 hr_1 => ?_)
  rcases hr_1 with ⟨rfl, hlo_2, hhi_2⟩ | ⟨rfl, hno_2⟩
  · refine lv_if_ne (tgt := 15) hx hb dX12_blank_9 (by decide) (fun _ => ?_) (fun c_3 => absurd c_3 (by decide))
    refine lv_aload_n hx hb dX12_blank_15 rfl (lv_at hl 0 rfl) ?_
    refine va_get (D := (dC, dI)) (ci := 12) (v := .int 0) (C := RX12) (T := TX12) (N := 172) hx hb hts inq_X12_blank_c12 hown hK hP 0 rfl rfl 3 (by decide) (hts (.fieldLink RX12 393 "DiskEvidenceModel" "pictures" "I") (List.mem_of_getElem? (i := 5) rfl)) (fun _ h9 => h9) rfl dX12_blank_16 ?_
    refine lv_bipush (v := 6) hx hb dX12_blank_19 (by decide) ?_
    refine lv_icmp_ne (tgt := 27) hx hb dX12_blank_21 (by decide) (fun _ => ?_) (fun c_4 => absurd c_4 (by decide))
    refine lv_aload_n hx hb dX12_blank_27 rfl (lv_at hl 0 rfl) ?_
    refine lv_iload_n hx hb dX12_blank_28 rfl (lv_at hl 1 rfl) ?_
    have hPc := hP.sub (ws' := [(h0, .inr (12, (fsM g))), ((g 4), .inl (cI, 6, (.inl (f4)))), ((g 5), .inl (cI, 49152, (.inl (f5)))), ((g 6), .inl (cZ, 768, (.inl (f6))))]) [0, 1, 2, 3] rfl
    have hDc := hD.sub (ws' := [(h0, .inr (12, (fsM g))), ((g 4), .inl (cI, 6, (.inl (f4)))), ((g 5), .inl (cI, 49152, (.inl (f5)))), ((g 6), .inl (cZ, 768, (.inl (f6))))]) [0, 1, 2, 3] (by decide) rfl
    have hKc := hK
    have hFc := va_free (wc := [(h0, .inr (12, (fsM g))), ((g 4), .inl (cI, 6, (.inl (f4)))), ((g 5), .inl (cI, 49152, (.inl (f5)))), ((g 6), .inl (cZ, 768, (.inl (f6))))]) hD hS hA [0, 1, 2, 3] rfl
    refine va_calli (va_runV (As := [.int p0]) (rest := []) ⟨hx, hb, hml, hown, hts⟩ (c_X12_begin l dC dI cI cB cZ cJ cC cP cV cT cO s.heap.size h0 g f4 f5 f6 p0) (cwV 1 hts gq_X12_blank_X12_begin_402 rfl rfl rfl (by decide +kernel) ⟨Nat.le_of_ble_eq_true rfl, Nat.le_of_ble_eq_true rfl⟩) ⟨fun a U g mk q => by obtain ⟨q0, q1, qP, qK, qD⟩ := q; exact ⟨q0, q1, qP, va_K.moved (u := U) (U := U.calling g mk a) (Vm.Alike.refl U.vm) qK, qD⟩, va_recv hKc hPc (ci := 12) (q0 := 0) rfl rfl, fun U hU hW => ⟨rfl, by rw [hU], by rw [hU]; exact hPc, va_K.moved hW.alike hKc, hDc.weaken (fun _ _ _ _ => trivial)⟩⟩ rfl rfl hl.1 rfl (lv_room (Nat.le_of_ble_eq_true rfl)) dX12_blank_29 ⟨Nat.le_of_ble_eq_true rfl, Nat.le_of_ble_eq_true rfl⟩) hS (fun q _ h => hFc q h) hFc (fun r_5 u t H1 locs ht hvm hr_5 hB hz1 hk1 hS => ?_)
    obtain ⟨hP, hD⟩ := va_join (wr := []) (w1 := []) hP hD [0, 1, 2, 3] [] rfl rfl (by decide) (by decide) hk1 hFc nw_P0 nw_D0
    generalize H1 = H at hP hS ⊢
    have hP : va_P (dC, dI) vwCl [] H := hP
    have hD : va_D A [] := hD
    obtain rfl : r_5 = 0 := hr_5
    exact W.iret (v := 0) hx hb hr (fun t ht hW => ⟨⟨0, (), rfl, (if_pos (in_blank.mp ⟨hlo_2, hhi_2⟩)).symm, trivial⟩, hS.F ht⟩) hS.2.2 dX12_blank_32
  · refine lv_if_ne (tgt := 15) hx hb dX12_blank_9 (by decide) (fun c_6 => absurd (by decide) c_6) (fun _ => ?_)
    refine lv_bipush (v := (-2)) hx hb dX12_blank_12 (by decide) ?_
    exact W.iret (v := (-2)) hx hb hr (fun t ht hW => ⟨⟨(-2), (), rfl, (if_neg (fun h => hno_2 (in_blank.mpr h))).symm, trivial⟩, hS.F ht⟩) hS.2.2 dX12_blank_14
def dq_X11_maybeVolume : List Cond := [.fieldLink RX11 143 "DiskEvidence" "volumeCount" "I"]
def wq_X11_maybeVolume : List Cond := .code yX11_maybeVolume cX11_maybeVolume 2 (some .boolean) :: (dq_X11_maybeVolume ++ (wsX110))
theorem inq_X11_maybeVolume_c11 : ∀ w ∈ wsX110, w ∈ wq_X11_maybeVolume := fun w h => List.mem_cons_of_mem _ (List.mem_append_right _ (h))
theorem ga_X11_maybeVolume : wq_X11_maybeVolume.all goodWord = true := by decide +kernel
theorem tdq_X11_maybeVolume : ∀ w ∈ dq_X11_maybeVolume, w ∈ lw_tbl := fun w h => (goodIn_r (big := lw_tbl) dq_X11_maybeVolume [592] (by decide +kernel) (by decide +kernel) w h).1
theorem tq_X11_maybeVolume : ∀ w ∈ wq_X11_maybeVolume, w ∈ lw_tbl := fun w h => (List.mem_cons.mp h).elim (fun e => by rw [e]; exact List.mem_of_getElem? (i := 860) (by decide +kernel)) (fun h => (List.mem_append.mp h).elim (fun h => tdq_X11_maybeVolume w h) (fun h => nX11 w h))
set_option maxHeartbeats 40000000 in
set_option maxRecDepth 100000 in
theorem c_X11_maybeVolume (l : Launch) (dC : Nat → ClassId) (dI : Nat → Nat → Nat) (cI cB cZ cJ cC cP cV cT cO : ClassId) (sz : Nat) (h0 : Nat) (g : Nat → Nat)  (p0 : Int32) : Met l yX11_maybeVolume wq_X11_maybeVolume ({ frames := 0, cells := 0, slots := 0, locals := 0 }) (va_Pc [.ref h0, .int p0] (fun U => U.heap.size = sz ∧ va_P (dC, dI) vwCl [(h0, .inr (11, (fsX g)))] U.heap ∧ va_K (dC, dI) vwCl [(cI, .int), (cB, .byte), (cZ, .boolean), (cJ, .long), (cC, .char), (cP, .object "DiskEvidence$Picture"), (cV, .object "DiskEvidence$Volume"), (cT, .object "DiskEvidence$Tree"), (cO, .object "DiskEvidence$Opening")] U ∧ va_D (fun _ => True) [(h0, .inr (11, (fsX g)))])) (vp_Si (fun r : Int32 => r = (if p0 = (-1) then 1 else 0))) 0 0 (fun _ => False) := by
  refine Met.ofW (cc := cX11_maybeVolume) (maxL := 2) (ret := (some .boolean)) (by decide) rfl ?_
  intro p e s m args below meth c s₁ B hml hv
  obtain ⟨rfl, hsz, hP, hK, hD0⟩ := hv
  have hx := B.exec
  have hb := B.bytes
  have hr := B.returns
  have hts := atoms_spec (ws := wq_X11_maybeVolume) B.pre
  have hown : s.vm.findClass RX11 = some m.cls := findClass_of_methodNamed B.named
  have hlocks := B.notSynchronized
  subst hsz
  have hD := hD0.self (sz := s.heap.size)
  generalize hAe : va_A [(h0, .inr (11, (fsX g)))] s.heap.size = A at hD ⊢
  have hA : ∀ q : Nat, s.heap.size ≤ q → A q := fun q h => by rw [← hAe]; exact Or.inr h
  have hS : va_S A s.heap s.heap [] := va_S.rf
  have hl := lv_entry ([.ref h0, .int p0]) (n := 2) (Nat.le_of_ble_eq_true rfl)
  rw [lg_entry_eq]
  generalize (lg_sl ([.ref h0, .int p0]) ++ List.replicate (2 - (lg_sl ([.ref h0, .int p0])).length) Slot.unset).toArray = ls at hl ⊢
  have hl : lv_has ls 2 [(0, .ref h0), (1, .int p0)] := hl
  refine lv_iload_n hx hb dX11_maybeVolume_0 rfl (lv_at hl 1 rfl) ?_
  refine lv_iconst (v := (-1)) hx hb dX11_maybeVolume_1 (by decide) ?_
  refine lv_icmp_eq (tgt := 17) hx hb dX11_maybeVolume_2 (by decide) (fun c_1 => ?_) (fun c_1 => ?_)
  · obtain rfl : p0 = (-1) := c_1
    refine lv_iconst (v := 1) hx hb dX11_maybeVolume_17 (by decide) ?_
    refine lv_goto (tgt := 22) hx hb dX11_maybeVolume_18 (by decide) ?_
    exact W.zret (v := 1) hx hb hr rfl (fun t ht hW => ⟨1, rfl, rfl, ht⟩) (fun _ h => by cases h) dX11_maybeVolume_22
  · refine lv_iload_n hx hb dX11_maybeVolume_5 rfl (lv_at hl 1 rfl) ?_
    refine lv_if_lt (tgt := 21) hx hb dX11_maybeVolume_6 (by decide) (fun c_2 => ?_) (fun c_2 => ?_)
    · refine lv_iconst (v := 0) hx hb dX11_maybeVolume_21 (by decide) ?_
      exact W.zret (v := 0) hx hb hr rfl (fun t ht hW => ⟨0, rfl, (if_neg c_1).symm, ht⟩) (fun _ h => by cases h) dX11_maybeVolume_22
    · refine lv_iload_n hx hb dX11_maybeVolume_9 rfl (lv_at hl 1 rfl) ?_
      refine lv_aload_n hx hb dX11_maybeVolume_10 rfl (lv_at hl 0 rfl) ?_
      refine va_get (D := (dC, dI)) (ci := 11) (v := .int 0) (C := RX11) (T := TX11) (N := 20) hx hb hts inq_X11_maybeVolume_c11 hown hK hP 0 rfl rfl 6 (by decide) (hts (.fieldLink RX11 143 "DiskEvidence" "volumeCount" "I") (List.mem_of_getElem? (i := 1) rfl)) (fun _ h9 => h9) rfl dX11_maybeVolume_11 ?_
      refine lv_icmp_ge (tgt := 21) hx hb dX11_maybeVolume_14 (by decide) (fun _ => ?_) (fun c_3 => absurd (Int32.not_lt.mp c_2) c_3)
      refine lv_iconst (v := 0) hx hb dX11_maybeVolume_21 (by decide) ?_
      exact W.zret (v := 0) hx hb hr rfl (fun t ht hW => ⟨0, rfl, (if_neg c_1).symm, ht⟩) (fun _ h => by cases h) dX11_maybeVolume_22
def dq_X11_join : List Cond := [.methodLink RX11 149 yX11_maybeVolume, .instanceMethod yX11_maybeVolume, .selects RX11 yX11_maybeVolume yX11_maybeVolume, .initialized RX11]
def wq_X11_join : List Cond := .code yX11_join cX11_join 10 (some .int) :: (dq_X11_join ++ (wq_X11_maybeVolume))
theorem mq_X11_join_X11_maybeVolume : ∀ w ∈ wq_X11_maybeVolume, w ∈ wq_X11_join := fun w h => List.mem_cons_of_mem _ (List.mem_append_right _ (h))
theorem ga_X11_join : wq_X11_join.all goodWord = true := by decide +kernel
theorem gq_X11_join_X11_maybeVolume_149 : GoodIn wq_X11_join (wsV RX11 149 RX11 yX11_maybeVolume wq_X11_maybeVolume) := goodIn_app (goodIn_r _ [1, 2, 3, 4] (by decide +kernel) (by decide +kernel)) (goodIn_sub mq_X11_join_X11_maybeVolume ga_X11_maybeVolume)
theorem tdq_X11_join : ∀ w ∈ dq_X11_join, w ∈ lw_tbl := fun w h => (goodIn_r (big := lw_tbl) dq_X11_join [857, 859, 4, 290] (by decide +kernel) (by decide +kernel) w h).1
theorem tq_X11_join : ∀ w ∈ wq_X11_join, w ∈ lw_tbl := fun w h => (List.mem_cons.mp h).elim (fun e => by rw [e]; exact List.mem_of_getElem? (i := 856) (by decide +kernel)) (fun h => (List.mem_append.mp h).elim (fun h => tdq_X11_join w h) (fun h => tq_X11_maybeVolume w h))
set_option maxHeartbeats 40000000 in
set_option maxRecDepth 100000 in
theorem c_X11_join (l : Launch) (dC : Nat → ClassId) (dI : Nat → Nat → Nat) (cI cB cZ cJ cC cP cV cT cO : ClassId) (sz : Nat) (h0 : Nat) (g : Nat → Nat)  (p0 : Int32) (p1 : Int32) (p2 : Int32) (p3 : Int32) : Met l yX11_join wq_X11_join ({ frames := 1, cells := 0, slots := 0, locals := 21 }) (va_Pc [.ref h0, .int p0, .int p1, .int p2, .int p3] (fun U => U.heap.size = sz ∧ va_P (dC, dI) vwCl [(h0, .inr (11, (fsX g)))] U.heap ∧ va_K (dC, dI) vwCl [(cI, .int), (cB, .byte), (cZ, .boolean), (cJ, .long), (cC, .char), (cP, .object "DiskEvidence$Picture"), (cV, .object "DiskEvidence$Volume"), (cT, .object "DiskEvidence$Tree"), (cO, .object "DiskEvidence$Opening")] U ∧ va_D (fun _ => True) [(h0, .inr (11, (fsX g)))])) (vp_Si (fun r : Int32 => r = (-2))) 0 0 (fun _ => False) := by
  refine Met.ofW (cc := cX11_join) (maxL := 10) (ret := (some .int)) (by decide) rfl ?_
  intro p e s m args below meth c s₁ B hml hv
  obtain ⟨rfl, hsz, hP, hK, hD0⟩ := hv
  have hx := B.exec
  have hb := B.bytes
  have hr := B.returns
  have hts := atoms_spec (ws := wq_X11_join) B.pre
  have hown : s.vm.findClass RX11 = some m.cls := findClass_of_methodNamed B.named
  have hlocks := B.notSynchronized
  subst hsz
  have hD := hD0.self (sz := s.heap.size)
  generalize hAe : va_A [(h0, .inr (11, (fsX g)))] s.heap.size = A at hD ⊢
  have hA : ∀ q : Nat, s.heap.size ≤ q → A q := fun q h => by rw [← hAe]; exact Or.inr h
  have hS : va_S A s.heap s.heap [] := va_S.rf
  have hl := lv_entry ([.ref h0, .int p0, .int p1, .int p2, .int p3]) (n := 10) (Nat.le_of_ble_eq_true rfl)
  rw [lg_entry_eq]
  generalize (lg_sl ([.ref h0, .int p0, .int p1, .int p2, .int p3]) ++ List.replicate (10 - (lg_sl ([.ref h0, .int p0, .int p1, .int p2, .int p3])).length) Slot.unset).toArray = ls at hl ⊢
  have hl : lv_has ls 10 [(0, .ref h0), (1, .int p0), (2, .int p1), (3, .int p2), (4, .int p3)] := hl
  refine lv_aload_n hx hb dX11_join_0 rfl (lv_at hl 0 rfl) ?_
  refine lv_iload_n hx hb dX11_join_1 rfl (lv_at hl 2 rfl) ?_
  have hPc := hP.sub (ws' := [(h0, .inr (11, (fsX g)))]) [0] rfl
  have hDc := hD.sub (ws' := [(h0, .inr (11, (fsX g)))]) [0] (by decide) rfl
  have hKc := hK
  refine vp_callSi (va_Run.run (va_runV (As := [.int p1]) (rest := []) ⟨hx, hb, hml, hown, hts⟩ (c_X11_maybeVolume l dC dI cI cB cZ cJ cC cP cV cT cO s.heap.size h0 g p1) (cwV 1 hts gq_X11_join_X11_maybeVolume_149 rfl rfl rfl (by decide +kernel) ⟨Nat.le_of_ble_eq_true rfl, Nat.le_of_ble_eq_true rfl⟩) ⟨fun a U g mk q => by obtain ⟨q0, q1, qP, qK, qD⟩ := q; exact ⟨q0, q1, qP, va_K.moved (u := U) (U := U.calling g mk a) (Vm.Alike.refl U.vm) qK, qD⟩, va_recv hKc hPc (ci := 11) (q0 := 0) rfl rfl, fun U hU hW => ⟨rfl, by rw [hU], by rw [hU]; exact hPc, va_K.moved hW.alike hKc, hDc.weaken (fun _ _ _ _ => trivial)⟩⟩ rfl rfl hl.1 rfl (lv_room (Nat.le_of_ble_eq_true rfl)) dX11_join_2 ⟨Nat.le_of_ble_eq_true rfl, Nat.le_of_ble_eq_true rfl⟩)) (fun r_1 hr_1 => ?_)
  by_cases hm_2 : p1 = (-1)
  · rw [if_pos hm_2] at hr_1
    obtain rfl : r_1 = 1 := hr_1
    obtain rfl : p1 = (-1) := hm_2
    refine lv_if_eq (tgt := 25) hx hb dX11_join_5 (by decide) (fun c_3 => absurd c_3 (by decide)) (fun _ => ?_)
    refine lv_aload_n hx hb dX11_join_8 rfl (lv_at hl 0 rfl) ?_
    refine lv_iload_n hx hb dX11_join_9 rfl (lv_at hl 3 rfl) ?_
    have hPc := hP.sub (ws' := [(h0, .inr (11, (fsX g)))]) [0] rfl
    have hDc := hD.sub (ws' := [(h0, .inr (11, (fsX g)))]) [0] (by decide) rfl
    have hKc := hK
    refine vp_callSi (va_Run.run (va_runV (As := [.int p2]) (rest := []) ⟨hx, hb, hml, hown, hts⟩ (c_X11_maybeVolume l dC dI cI cB cZ cJ cC cP cV cT cO s.heap.size h0 g p2) (cwV 1 hts gq_X11_join_X11_maybeVolume_149 rfl rfl rfl (by decide +kernel) ⟨Nat.le_of_ble_eq_true rfl, Nat.le_of_ble_eq_true rfl⟩) ⟨fun a U g mk q => by obtain ⟨q0, q1, qP, qK, qD⟩ := q; exact ⟨q0, q1, qP, va_K.moved (u := U) (U := U.calling g mk a) (Vm.Alike.refl U.vm) qK, qD⟩, va_recv hKc hPc (ci := 11) (q0 := 0) rfl rfl, fun U hU hW => ⟨rfl, by rw [hU], by rw [hU]; exact hPc, va_K.moved hW.alike hKc, hDc.weaken (fun _ _ _ _ => trivial)⟩⟩ rfl rfl hl.1 rfl (lv_room (Nat.le_of_ble_eq_true rfl)) dX11_join_10 ⟨Nat.le_of_ble_eq_true rfl, Nat.le_of_ble_eq_true rfl⟩)) (fun r_4 hr_4 => ?_)
    by_cases hm_5 : p2 = (-1)
    · rw [if_pos hm_5] at hr_4
      obtain rfl : r_4 = 1 := hr_4
      obtain rfl : p2 = (-1) := hm_5
      refine lv_if_eq (tgt := 25) hx hb dX11_join_13 (by decide) (fun c_6 => absurd c_6 (by decide)) (fun _ => ?_)
      refine lv_aload_n hx hb dX11_join_16 rfl (lv_at hl 0 rfl) ?_
      refine lv_iload hx hb dX11_join_17 (lv_at hl 4 rfl) ?_
      have hPc := hP.sub (ws' := [(h0, .inr (11, (fsX g)))]) [0] rfl
      have hDc := hD.sub (ws' := [(h0, .inr (11, (fsX g)))]) [0] (by decide) rfl
      have hKc := hK
      refine vp_callSi (va_Run.run (va_runV (As := [.int p3]) (rest := []) ⟨hx, hb, hml, hown, hts⟩ (c_X11_maybeVolume l dC dI cI cB cZ cJ cC cP cV cT cO s.heap.size h0 g p3) (cwV 1 hts gq_X11_join_X11_maybeVolume_149 rfl rfl rfl (by decide +kernel) ⟨Nat.le_of_ble_eq_true rfl, Nat.le_of_ble_eq_true rfl⟩) ⟨fun a U g mk q => by obtain ⟨q0, q1, qP, qK, qD⟩ := q; exact ⟨q0, q1, qP, va_K.moved (u := U) (U := U.calling g mk a) (Vm.Alike.refl U.vm) qK, qD⟩, va_recv hKc hPc (ci := 11) (q0 := 0) rfl rfl, fun U hU hW => ⟨rfl, by rw [hU], by rw [hU]; exact hPc, va_K.moved hW.alike hKc, hDc.weaken (fun _ _ _ _ => trivial)⟩⟩ rfl rfl hl.1 rfl (lv_room (Nat.le_of_ble_eq_true rfl)) dX11_join_19 ⟨Nat.le_of_ble_eq_true rfl, Nat.le_of_ble_eq_true rfl⟩)) (fun r_7 hr_7 => ?_)
      by_cases hm_8 : p3 = (-1)
      · rw [if_pos hm_8] at hr_7
        obtain rfl : r_7 = 1 := hr_7
        obtain rfl : p3 = (-1) := hm_8
        refine lv_if_ne (tgt := 28) hx hb dX11_join_22 (by decide) (fun _ => ?_) (fun c_9 => absurd c_9 (by decide))
        refine lv_iload_n hx hb dX11_join_28 rfl (lv_at hl 2 rfl) ?_
        refine lv_iload_n hx hb dX11_join_29 rfl (lv_at hl 3 rfl) ?_
        refine lv_icmp_ne (tgt := 38) hx hb dX11_join_30 (by decide) (fun c_10 => absurd (by decide) c_10) (fun _ => ?_)
        refine lv_iload_n hx hb dX11_join_33 rfl (lv_at hl 2 rfl) ?_
        refine lv_iconst (v := (-1)) hx hb dX11_join_34 (by decide) ?_
        refine lv_icmp_ne (tgt := 60) hx hb dX11_join_35 (by decide) (fun c_11 => absurd (by decide) c_11) (fun _ => ?_)
        refine lv_iload_n hx hb dX11_join_38 rfl (lv_at hl 3 rfl) ?_
        refine lv_iload hx hb dX11_join_39 (lv_at hl 4 rfl) ?_
        refine lv_icmp_ne (tgt := 49) hx hb dX11_join_41 (by decide) (fun c_12 => absurd (by decide) c_12) (fun _ => ?_)
        refine lv_iload_n hx hb dX11_join_44 rfl (lv_at hl 3 rfl) ?_
        refine lv_iconst (v := (-1)) hx hb dX11_join_45 (by decide) ?_
        refine lv_icmp_ne (tgt := 60) hx hb dX11_join_46 (by decide) (fun c_13 => absurd (by decide) c_13) (fun _ => ?_)
        refine lv_iload_n hx hb dX11_join_49 rfl (lv_at hl 2 rfl) ?_
        refine lv_iload hx hb dX11_join_50 (lv_at hl 4 rfl) ?_
        refine lv_icmp_ne (tgt := 63) hx hb dX11_join_52 (by decide) (fun c_14 => absurd (by decide) c_14) (fun _ => ?_)
        refine lv_iload_n hx hb dX11_join_55 rfl (lv_at hl 2 rfl) ?_
        refine lv_iconst (v := (-1)) hx hb dX11_join_56 (by decide) ?_
        refine lv_icmp_eq (tgt := 63) hx hb dX11_join_57 (by decide) (fun _ => ?_) (fun c_15 => absurd (by decide) c_15)
        refine lv_iload_n hx hb dX11_join_63 rfl (lv_at hl 2 rfl) ?_
        refine lv_iconst (v := (-1)) hx hb dX11_join_64 (by decide) ?_
        refine lv_icmp_ne (tgt := 72) hx hb dX11_join_65 (by decide) (fun c_16 => absurd (by decide) c_16) (fun _ => ?_)
        refine lv_iconst (v := 0) hx hb dX11_join_68 (by decide) ?_
        refine lv_goto (tgt := 73) hx hb dX11_join_69 (by decide) ?_
        refine lv_iload_n hx hb dX11_join_73 rfl (lv_at hl 3 rfl) ?_
        refine lv_iconst (v := (-1)) hx hb dX11_join_74 (by decide) ?_
        refine lv_icmp_ne (tgt := 82) hx hb dX11_join_75 (by decide) (fun c_17 => absurd (by decide) c_17) (fun _ => ?_)
        refine lv_iconst (v := 0) hx hb dX11_join_78 (by decide) ?_
        refine lv_goto (tgt := 83) hx hb dX11_join_79 (by decide) ?_
        refine lv_iadd hx hb dX11_join_83 ?_
        refine lv_topi (fun f_18 ef_18 => ?_)
        obtain rfl : (0 : Int32) = f_18 := (ef_18.trans (by decide)).symm
        refine lv_iload hx hb dX11_join_84 (lv_at hl 4 rfl) ?_
        refine lv_iconst (v := (-1)) hx hb dX11_join_86 (by decide) ?_
        refine lv_icmp_ne (tgt := 94) hx hb dX11_join_87 (by decide) (fun c_19 => absurd (by decide) c_19) (fun _ => ?_)
        refine lv_iconst (v := 0) hx hb dX11_join_90 (by decide) ?_
        refine lv_goto (tgt := 95) hx hb dX11_join_91 (by decide) ?_
        refine lv_iadd hx hb dX11_join_95 ?_
        refine lv_topi (fun f_20 ef_20 => ?_)
        obtain rfl : (0 : Int32) = f_20 := (ef_20.trans (by decide)).symm
        refine lv_istore (lv' := [(5, .int 0), (0, .ref h0), (1, .int p0), (2, .int (-1)), (3, .int (-1)), (4, .int (-1))]) hx hb dX11_join_96 hl (by decide) rfl (fun ls hl => ?_)
        refine lv_iload_n hx hb dX11_join_98 rfl (lv_at hl 2 rfl) ?_
        refine lv_iconst (v := 1) hx hb dX11_join_99 (by decide) ?_
        refine lv_icmp_eq (tgt := 108) hx hb dX11_join_100 (by decide) (fun c_21 => ?_) (fun c_21 => ?_)
        · obtain rfl : p0 = 1 := c_21
          refine lv_iload_n hx hb dX11_join_108 rfl (lv_at hl 3 rfl) ?_
          refine lv_iconst (v := (-1)) hx hb dX11_join_109 (by decide) ?_
          refine lv_icmp_eq (tgt := 122) hx hb dX11_join_110 (by decide) (fun _ => ?_) (fun c_22 => absurd (by decide) c_22)
          refine lv_iconst (v := 0) hx hb dX11_join_122 (by decide) ?_
          refine lv_istore (lv' := [(6, .int 0), (5, .int 0), (0, .ref h0), (1, .int 1), (2, .int (-1)), (3, .int (-1)), (4, .int (-1))]) hx hb dX11_join_123 hl (by decide) rfl (fun ls hl => ?_)
          refine lv_iload_n hx hb dX11_join_125 rfl (lv_at hl 3 rfl) ?_
          refine lv_iconst (v := 3) hx hb dX11_join_126 (by decide) ?_
          refine lv_icmp_ne (tgt := 146) hx hb dX11_join_127 (by decide) (fun _ => ?_) (fun c_23 => absurd c_23 (by decide))
          refine lv_iconst (v := 0) hx hb dX11_join_146 (by decide) ?_
          refine lv_istore (lv' := [(7, .int 0), (6, .int 0), (5, .int 0), (0, .ref h0), (1, .int 1), (2, .int (-1)), (3, .int (-1)), (4, .int (-1))]) hx hb dX11_join_147 hl (by decide) rfl (fun ls hl => ?_)
          refine lv_iload_n hx hb dX11_join_149 rfl (lv_at hl 4 rfl) ?_
          refine lv_iconst (v := 4) hx hb dX11_join_150 (by decide) ?_
          refine lv_icmp_ne (tgt := 164) hx hb dX11_join_151 (by decide) (fun _ => ?_) (fun c_24 => absurd c_24 (by decide))
          refine lv_iconst (v := 0) hx hb dX11_join_164 (by decide) ?_
          refine lv_istore (lv' := [(8, .int 0), (7, .int 0), (6, .int 0), (5, .int 0), (0, .ref h0), (1, .int 1), (2, .int (-1)), (3, .int (-1)), (4, .int (-1))]) hx hb dX11_join_165 hl (by decide) rfl (fun ls hl => ?_)
          refine lv_iload hx hb dX11_join_167 (lv_at hl 2 rfl) ?_
          refine lv_if_ne (tgt := 185) hx hb dX11_join_169 (by decide) (fun c_25 => absurd (by decide) c_25) (fun _ => ?_)
          refine lv_iload hx hb dX11_join_172 (lv_at hl 1 rfl) ?_
          refine lv_if_ne (tgt := 185) hx hb dX11_join_174 (by decide) (fun c_26 => absurd (by decide) c_26) (fun _ => ?_)
          refine lv_iload hx hb dX11_join_177 (lv_at hl 0 rfl) ?_
          refine lv_if_ne (tgt := 185) hx hb dX11_join_179 (by decide) (fun c_27 => absurd (by decide) c_27) (fun _ => ?_)
          refine lv_bipush (v := (-2)) hx hb dX11_join_182 (by decide) ?_
          exact W.iret (v := (-2)) hx hb hr (fun t ht hW => ⟨(-2), rfl, rfl, ht⟩) (fun _ h => by cases h) dX11_join_184
        · refine lv_iload_n hx hb dX11_join_103 rfl (lv_at hl 2 rfl) ?_
          refine lv_iconst (v := 2) hx hb dX11_join_104 (by decide) ?_
          refine lv_icmp_ne (tgt := 122) hx hb dX11_join_105 (by decide) (fun c_28 => ?_) (fun c_28 => ?_)
          · refine lv_iconst (v := 0) hx hb dX11_join_122 (by decide) ?_
            refine lv_istore (lv' := [(6, .int 0), (5, .int 0), (0, .ref h0), (1, .int p0), (2, .int (-1)), (3, .int (-1)), (4, .int (-1))]) hx hb dX11_join_123 hl (by decide) rfl (fun ls hl => ?_)
            refine lv_iload_n hx hb dX11_join_125 rfl (lv_at hl 3 rfl) ?_
            refine lv_iconst (v := 3) hx hb dX11_join_126 (by decide) ?_
            refine lv_icmp_ne (tgt := 146) hx hb dX11_join_127 (by decide) (fun c_29 => ?_) (fun c_29 => ?_)
            · refine lv_iconst (v := 0) hx hb dX11_join_146 (by decide) ?_
              refine lv_istore (lv' := [(7, .int 0), (6, .int 0), (5, .int 0), (0, .ref h0), (1, .int p0), (2, .int (-1)), (3, .int (-1)), (4, .int (-1))]) hx hb dX11_join_147 hl (by decide) rfl (fun ls hl => ?_)
              refine lv_iload_n hx hb dX11_join_149 rfl (lv_at hl 4 rfl) ?_
              refine lv_iconst (v := 4) hx hb dX11_join_150 (by decide) ?_
              refine lv_icmp_ne (tgt := 164) hx hb dX11_join_151 (by decide) (fun c_30 => ?_) (fun c_30 => ?_)
              · refine lv_iconst (v := 0) hx hb dX11_join_164 (by decide) ?_
                refine lv_istore (lv' := [(8, .int 0), (7, .int 0), (6, .int 0), (5, .int 0), (0, .ref h0), (1, .int p0), (2, .int (-1)), (3, .int (-1)), (4, .int (-1))]) hx hb dX11_join_165 hl (by decide) rfl (fun ls hl => ?_)
                refine lv_iload hx hb dX11_join_167 (lv_at hl 2 rfl) ?_
                refine lv_if_ne (tgt := 185) hx hb dX11_join_169 (by decide) (fun c_31 => absurd (by decide) c_31) (fun _ => ?_)
                refine lv_iload hx hb dX11_join_172 (lv_at hl 1 rfl) ?_
                refine lv_if_ne (tgt := 185) hx hb dX11_join_174 (by decide) (fun c_32 => absurd (by decide) c_32) (fun _ => ?_)
                refine lv_iload hx hb dX11_join_177 (lv_at hl 0 rfl) ?_
                refine lv_if_ne (tgt := 185) hx hb dX11_join_179 (by decide) (fun c_33 => absurd (by decide) c_33) (fun _ => ?_)
                refine lv_bipush (v := (-2)) hx hb dX11_join_182 (by decide) ?_
                exact W.iret (v := (-2)) hx hb hr (fun t ht hW => ⟨(-2), rfl, rfl, ht⟩) (fun _ h => by cases h) dX11_join_184
              · obtain rfl : p0 = 4 := c_30
                refine lv_iload hx hb dX11_join_154 (lv_at hl 2 rfl) ?_
                refine lv_iconst (v := 2) hx hb dX11_join_156 (by decide) ?_
                refine lv_icmp_lt (tgt := 164) hx hb dX11_join_157 (by decide) (fun _ => ?_) (fun c_34 => absurd (by decide) c_34)
                refine lv_iconst (v := 0) hx hb dX11_join_164 (by decide) ?_
                refine lv_istore (lv' := [(8, .int 0), (7, .int 0), (6, .int 0), (5, .int 0), (0, .ref h0), (1, .int 4), (2, .int (-1)), (3, .int (-1)), (4, .int (-1))]) hx hb dX11_join_165 hl (by decide) rfl (fun ls hl => ?_)
                refine lv_iload hx hb dX11_join_167 (lv_at hl 2 rfl) ?_
                refine lv_if_ne (tgt := 185) hx hb dX11_join_169 (by decide) (fun c_35 => absurd (by decide) c_35) (fun _ => ?_)
                refine lv_iload hx hb dX11_join_172 (lv_at hl 1 rfl) ?_
                refine lv_if_ne (tgt := 185) hx hb dX11_join_174 (by decide) (fun c_36 => absurd (by decide) c_36) (fun _ => ?_)
                refine lv_iload hx hb dX11_join_177 (lv_at hl 0 rfl) ?_
                refine lv_if_ne (tgt := 185) hx hb dX11_join_179 (by decide) (fun c_37 => absurd (by decide) c_37) (fun _ => ?_)
                refine lv_bipush (v := (-2)) hx hb dX11_join_182 (by decide) ?_
                exact W.iret (v := (-2)) hx hb hr (fun t ht hW => ⟨(-2), rfl, rfl, ht⟩) (fun _ h => by cases h) dX11_join_184
            · obtain rfl : p0 = 3 := c_29
              refine lv_iload hx hb dX11_join_130 (lv_at hl 6 rfl) ?_
              refine lv_iconst (v := (-1)) hx hb dX11_join_132 (by decide) ?_
              refine lv_icmp_ne (tgt := 146) hx hb dX11_join_133 (by decide) (fun c_38 => absurd (by decide) c_38) (fun _ => ?_)
              refine lv_iload hx hb dX11_join_136 (lv_at hl 1 rfl) ?_
              refine lv_iconst (v := 1) hx hb dX11_join_138 (by decide) ?_
              refine lv_icmp_lt (tgt := 146) hx hb dX11_join_139 (by decide) (fun _ => ?_) (fun c_39 => absurd (by decide) c_39)
              refine lv_iconst (v := 0) hx hb dX11_join_146 (by decide) ?_
              refine lv_istore (lv' := [(7, .int 0), (6, .int 0), (5, .int 0), (0, .ref h0), (1, .int 3), (2, .int (-1)), (3, .int (-1)), (4, .int (-1))]) hx hb dX11_join_147 hl (by decide) rfl (fun ls hl => ?_)
              refine lv_iload_n hx hb dX11_join_149 rfl (lv_at hl 4 rfl) ?_
              refine lv_iconst (v := 4) hx hb dX11_join_150 (by decide) ?_
              refine lv_icmp_ne (tgt := 164) hx hb dX11_join_151 (by decide) (fun _ => ?_) (fun c_40 => absurd c_40 (by decide))
              refine lv_iconst (v := 0) hx hb dX11_join_164 (by decide) ?_
              refine lv_istore (lv' := [(8, .int 0), (7, .int 0), (6, .int 0), (5, .int 0), (0, .ref h0), (1, .int 3), (2, .int (-1)), (3, .int (-1)), (4, .int (-1))]) hx hb dX11_join_165 hl (by decide) rfl (fun ls hl => ?_)
              refine lv_iload hx hb dX11_join_167 (lv_at hl 2 rfl) ?_
              refine lv_if_ne (tgt := 185) hx hb dX11_join_169 (by decide) (fun c_41 => absurd (by decide) c_41) (fun _ => ?_)
              refine lv_iload hx hb dX11_join_172 (lv_at hl 1 rfl) ?_
              refine lv_if_ne (tgt := 185) hx hb dX11_join_174 (by decide) (fun c_42 => absurd (by decide) c_42) (fun _ => ?_)
              refine lv_iload hx hb dX11_join_177 (lv_at hl 0 rfl) ?_
              refine lv_if_ne (tgt := 185) hx hb dX11_join_179 (by decide) (fun c_43 => absurd (by decide) c_43) (fun _ => ?_)
              refine lv_bipush (v := (-2)) hx hb dX11_join_182 (by decide) ?_
              exact W.iret (v := (-2)) hx hb hr (fun t ht hW => ⟨(-2), rfl, rfl, ht⟩) (fun _ h => by cases h) dX11_join_184
          · obtain rfl : p0 = 2 := c_28
            refine lv_iload_n hx hb dX11_join_108 rfl (lv_at hl 3 rfl) ?_
            refine lv_iconst (v := (-1)) hx hb dX11_join_109 (by decide) ?_
            refine lv_icmp_eq (tgt := 122) hx hb dX11_join_110 (by decide) (fun _ => ?_) (fun c_44 => absurd (by decide) c_44)
            refine lv_iconst (v := 0) hx hb dX11_join_122 (by decide) ?_
            refine lv_istore (lv' := [(6, .int 0), (5, .int 0), (0, .ref h0), (1, .int 2), (2, .int (-1)), (3, .int (-1)), (4, .int (-1))]) hx hb dX11_join_123 hl (by decide) rfl (fun ls hl => ?_)
            refine lv_iload_n hx hb dX11_join_125 rfl (lv_at hl 3 rfl) ?_
            refine lv_iconst (v := 3) hx hb dX11_join_126 (by decide) ?_
            refine lv_icmp_ne (tgt := 146) hx hb dX11_join_127 (by decide) (fun _ => ?_) (fun c_45 => absurd c_45 (by decide))
            refine lv_iconst (v := 0) hx hb dX11_join_146 (by decide) ?_
            refine lv_istore (lv' := [(7, .int 0), (6, .int 0), (5, .int 0), (0, .ref h0), (1, .int 2), (2, .int (-1)), (3, .int (-1)), (4, .int (-1))]) hx hb dX11_join_147 hl (by decide) rfl (fun ls hl => ?_)
            refine lv_iload_n hx hb dX11_join_149 rfl (lv_at hl 4 rfl) ?_
            refine lv_iconst (v := 4) hx hb dX11_join_150 (by decide) ?_
            refine lv_icmp_ne (tgt := 164) hx hb dX11_join_151 (by decide) (fun _ => ?_) (fun c_46 => absurd c_46 (by decide))
            refine lv_iconst (v := 0) hx hb dX11_join_164 (by decide) ?_
            refine lv_istore (lv' := [(8, .int 0), (7, .int 0), (6, .int 0), (5, .int 0), (0, .ref h0), (1, .int 2), (2, .int (-1)), (3, .int (-1)), (4, .int (-1))]) hx hb dX11_join_165 hl (by decide) rfl (fun ls hl => ?_)
            refine lv_iload hx hb dX11_join_167 (lv_at hl 2 rfl) ?_
            refine lv_if_ne (tgt := 185) hx hb dX11_join_169 (by decide) (fun c_47 => absurd (by decide) c_47) (fun _ => ?_)
            refine lv_iload hx hb dX11_join_172 (lv_at hl 1 rfl) ?_
            refine lv_if_ne (tgt := 185) hx hb dX11_join_174 (by decide) (fun c_48 => absurd (by decide) c_48) (fun _ => ?_)
            refine lv_iload hx hb dX11_join_177 (lv_at hl 0 rfl) ?_
            refine lv_if_ne (tgt := 185) hx hb dX11_join_179 (by decide) (fun c_49 => absurd (by decide) c_49) (fun _ => ?_)
            refine lv_bipush (v := (-2)) hx hb dX11_join_182 (by decide) ?_
            exact W.iret (v := (-2)) hx hb hr (fun t ht hW => ⟨(-2), rfl, rfl, ht⟩) (fun _ h => by cases h) dX11_join_184
      · rw [if_neg hm_8] at hr_7
        obtain rfl : r_7 = 0 := hr_7
        refine lv_if_ne (tgt := 28) hx hb dX11_join_22 (by decide) (fun c_50 => absurd (by decide) c_50) (fun _ => ?_)
        refine lv_bipush (v := (-2)) hx hb dX11_join_25 (by decide) ?_
        exact W.iret (v := (-2)) hx hb hr (fun t ht hW => ⟨(-2), rfl, rfl, ht⟩) (fun _ h => by cases h) dX11_join_27
    · rw [if_neg hm_5] at hr_4
      obtain rfl : r_4 = 0 := hr_4
      refine lv_if_eq (tgt := 25) hx hb dX11_join_13 (by decide) (fun _ => ?_) (fun c_51 => absurd (by decide) c_51)
      refine lv_bipush (v := (-2)) hx hb dX11_join_25 (by decide) ?_
      exact W.iret (v := (-2)) hx hb hr (fun t ht hW => ⟨(-2), rfl, rfl, ht⟩) (fun _ h => by cases h) dX11_join_27
  · rw [if_neg hm_2] at hr_1
    obtain rfl : r_1 = 0 := hr_1
    refine lv_if_eq (tgt := 25) hx hb dX11_join_5 (by decide) (fun _ => ?_) (fun c_52 => absurd (by decide) c_52)
    refine lv_bipush (v := (-2)) hx hb dX11_join_25 (by decide) ?_
    exact W.iret (v := (-2)) hx hb hr (fun t ht hW => ⟨(-2), rfl, rfl, ht⟩) (fun _ h => by cases h) dX11_join_27
def dq_X12_join : List Cond := [.constantLong RX12 472 (4), .methodLink RX12 372 yX12_in, .static yX12_in, .initialized RX12, .methodLink RX12 474 yX12_isVolume, .instanceMethod yX12_isVolume, .selects RX12 yX12_isVolume yX12_isVolume]
def wq_X12_join : List Cond := .code yX12_join cX12_join 14 (some .int) :: (dq_X12_join ++ (wq_X12_in ++ (wq_X12_isVolume)))
theorem mq_X12_join_X12_in : ∀ w ∈ wq_X12_in, w ∈ wq_X12_join := fun w h => List.mem_cons_of_mem _ (List.mem_append_right _ (List.mem_append_left _ h))
theorem mq_X12_join_X12_isVolume : ∀ w ∈ wq_X12_isVolume, w ∈ wq_X12_join := fun w h => List.mem_cons_of_mem _ (List.mem_append_right _ (List.mem_append_right _ (h)))
theorem ga_X12_join : wq_X12_join.all goodWord = true := by decide +kernel
theorem gq_X12_join_X12_in_372 : GoodIn wq_X12_join (va_wsS RX12 372 yX12_in wq_X12_in) := goodIn_app (goodIn_r _ [2, 3, 4] (by decide +kernel) (by decide +kernel)) (goodIn_sub mq_X12_join_X12_in ga_X12_in)
theorem gq_X12_join_X12_isVolume_474 : GoodIn wq_X12_join (wsV RX12 474 RX12 yX12_isVolume wq_X12_isVolume) := goodIn_app (goodIn_r _ [5, 6, 7, 4] (by decide +kernel) (by decide +kernel)) (goodIn_sub mq_X12_join_X12_isVolume ga_X12_isVolume)
theorem tdq_X12_join : ∀ w ∈ dq_X12_join, w ∈ lw_tbl := fun w h => (goodIn_r (big := lw_tbl) dq_X12_join [2901, 2772, 2773, 296, 2902, 2904, 131] (by decide +kernel) (by decide +kernel) w h).1
theorem tq_X12_join : ∀ w ∈ wq_X12_join, w ∈ lw_tbl := fun w h => (List.mem_cons.mp h).elim (fun e => by rw [e]; exact List.mem_of_getElem? (i := 2900) (by decide +kernel)) (fun h => (List.mem_append.mp h).elim (fun h => tdq_X12_join w h) (fun h => (List.mem_append.mp h).elim (fun h => tq_X12_in w h) (fun h => tq_X12_isVolume w h)))
set_option maxHeartbeats 40000000 in
set_option maxRecDepth 100000 in
theorem c_X12_join (l : Launch) (dC : Nat → ClassId) (dI : Nat → Nat → Nat) (cI cB cZ cJ cC cP cV cT cO : ClassId) (sz : Nat) (h0 : Nat) (g : Nat → Nat)  (p0 : Int32) (p1 : Int32) (p2 : Int32) (p3 : Int32) : Met l yX12_join wq_X12_join ({ frames := 2, cells := 0, slots := 0, locals := 46 }) (va_Pc [.ref h0, .int p0, .int p1, .int p2, .int p3] (fun U => U.heap.size = sz ∧ va_P (dC, dI) vwCl [(h0, .inr (12, (fsM g)))] U.heap ∧ va_K (dC, dI) vwCl [(cI, .int), (cB, .byte), (cZ, .boolean), (cJ, .long), (cC, .char), (cP, .object "DiskEvidence$Picture"), (cV, .object "DiskEvidence$Volume"), (cT, .object "DiskEvidence$Tree"), (cO, .object "DiskEvidence$Opening")] U ∧ va_D (fun _ => True) [(h0, .inr (12, (fsM g)))])) (vp_Si (fun r : Int32 => r = (-2))) 0 0 (fun _ => False) := by
  refine Met.ofW (cc := cX12_join) (maxL := 14) (ret := (some .int)) (by decide) rfl ?_
  intro p e s m args below meth c s₁ B hml hv
  obtain ⟨rfl, hsz, hP, hK, hD0⟩ := hv
  have hx := B.exec
  have hb := B.bytes
  have hr := B.returns
  have hts := atoms_spec (ws := wq_X12_join) B.pre
  have hown : s.vm.findClass RX12 = some m.cls := findClass_of_methodNamed B.named
  have hlocks := B.notSynchronized
  subst hsz
  have hD := hD0.self (sz := s.heap.size)
  generalize hAe : va_A [(h0, .inr (12, (fsM g)))] s.heap.size = A at hD ⊢
  have hA : ∀ q : Nat, s.heap.size ≤ q → A q := fun q h => by rw [← hAe]; exact Or.inr h
  have hS : va_S A s.heap s.heap [] := va_S.rf
  have hl := lv_entry ([.ref h0, .int p0, .int p1, .int p2, .int p3]) (n := 14) (Nat.le_of_ble_eq_true rfl)
  rw [lg_entry_eq]
  generalize (lg_sl ([.ref h0, .int p0, .int p1, .int p2, .int p3]) ++ List.replicate (14 - (lg_sl ([.ref h0, .int p0, .int p1, .int p2, .int p3])).length) Slot.unset).toArray = ls at hl ⊢
  have hl : lv_has ls 14 [(0, .ref h0), (1, .int p0), (2, .int p1), (3, .int p2), (4, .int p3)] := hl
  refine lv_iload_n hx hb dX12_join_0 rfl (lv_at hl 1 rfl) ?_
  refine lv_iconst (v := 3) hx hb dX12_join_1 (by decide) ?_
  refine lv_icmp_eq (tgt := 10) hx hb dX12_join_2 (by decide) (fun c_1 => ?_) (fun c_1 => ?_)
  · obtain rfl : p0 = 3 := c_1
    refine lv_iconst (v := 1) hx hb dX12_join_10 (by decide) ?_
    refine lv_goto (tgt := 15) hx hb dX12_join_11 (by decide) ?_
    refine lv_istore (lv' := [(5, .int 1), (0, .ref h0), (1, .int 3), (2, .int p1), (3, .int p2), (4, .int p3)]) hx hb dX12_join_15 hl (by decide) rfl (fun ls hl => ?_)
    refine lv_iload_n hx hb dX12_join_17 rfl (lv_at hl 3 rfl) ?_
    refine lv_iconst (v := (-1)) hx hb dX12_join_18 (by decide) ?_
    refine lv_icmp_ne (tgt := 26) hx hb dX12_join_19 (by decide) (fun c_2 => ?_) (fun c_2 => ?_)
    · refine lv_iconst (v := 0) hx hb dX12_join_26 (by decide) ?_
      refine lv_iload_n hx hb dX12_join_27 rfl (lv_at hl 4 rfl) ?_
      refine lv_iconst (v := (-1)) hx hb dX12_join_28 (by decide) ?_
      refine lv_icmp_ne (tgt := 36) hx hb dX12_join_29 (by decide) (fun c_3 => ?_) (fun c_3 => ?_)
      · refine lv_iconst (v := 0) hx hb dX12_join_36 (by decide) ?_
        refine lv_iadd hx hb dX12_join_37 ?_
        refine lv_topi (fun f_4 ef_4 => ?_)
        obtain rfl : (0 : Int32) = f_4 := (ef_4.trans (by decide)).symm
        refine lv_iload_n hx hb dX12_join_38 rfl (lv_at hl 2 rfl) ?_
        refine lv_iconst (v := 4) hx hb dX12_join_39 (by decide) ?_
        refine lv_icmp_ne (tgt := 53) hx hb dX12_join_40 (by decide) (fun _ => ?_) (fun c_5 => absurd c_5 (by decide))
        refine lv_iconst (v := 0) hx hb dX12_join_53 (by decide) ?_
        refine lv_iadd hx hb dX12_join_54 ?_
        refine lv_topi (fun f_6 ef_6 => ?_)
        obtain rfl : (0 : Int32) = f_6 := (ef_6.trans (by decide)).symm
        refine lv_istore (lv' := [(6, .int 0), (5, .int 1), (0, .ref h0), (1, .int 3), (2, .int p1), (3, .int p2), (4, .int p3)]) hx hb dX12_join_55 hl (by decide) rfl (fun ls hl => ?_)
        refine lv_iload_n hx hb dX12_join_57 rfl (lv_at hl 3 rfl) ?_
        refine lv_i2l (v := 3) hx hb dX12_join_58 (by decide) ?_
        refine lv_lconst (v := 1) hx hb dX12_join_59 (by decide) ?_
        refine lv_ldc2 (v := 4) hx hb hown (hts (.constantLong RX12 472 (4)) (List.mem_of_getElem? (i := 1) rfl)) dX12_join_60 ?_
        refine vp_callSi (va_Run.run (va_runS (As := [.long 3, .long 1, .long 4]) (rest := []) ⟨hx, hb, hml, hown, hts⟩ (c_X12_in l 3 1 4) (va_cwS 3 hts gq_X12_join_X12_in_372 rfl rfl rfl (by decide +kernel) ⟨Nat.le_of_ble_eq_true rfl, Nat.le_of_ble_eq_true rfl⟩) ⟨fun a U g mk q => q, fun U hU hW => ⟨rfl, trivial⟩⟩ rfl rfl hl.1 rfl (lv_room (Nat.le_of_ble_eq_true rfl)) dX12_join_63 ⟨Nat.le_of_ble_eq_true rfl, Nat.le_of_ble_eq_true rfl⟩)) (fun r_7 hr_7 => ?_)
        rcases hr_7 with ⟨rfl, hlo_8, hhi_8⟩ | ⟨rfl, hno_8⟩
        · refine lv_if_eq (tgt := 119) hx hb dX12_join_66 (by decide) (fun c_9 => absurd c_9 (by decide)) (fun _ => ?_)
          refine lv_iload_n hx hb dX12_join_69 rfl (lv_at hl 4 rfl) ?_
          refine lv_iconst (v := (-1)) hx hb dX12_join_70 (by decide) ?_
          refine lv_icmp_eq (tgt := 82) hx hb dX12_join_71 (by decide) (fun c_10 => absurd c_10 c_2) (fun _ => ?_)
          refine lv_aload_n hx hb dX12_join_74 rfl (lv_at hl 2 rfl) ?_
          refine lv_iload_n hx hb dX12_join_75 rfl (lv_at hl 4 rfl) ?_
          have hPc := hP.sub (ws' := [(h0, .inr (12, (fsM g)))]) [0] rfl
          have hDc := hD.sub (ws' := [(h0, .inr (12, (fsM g)))]) [0] (by decide) rfl
          have hKc := hK
          refine vp_callSi (va_Run.run (va_runV (As := [.int p1]) (rest := []) ⟨hx, hb, hml, hown, hts⟩ (c_X12_isVolume l dC dI cI cB cZ cJ cC cP cV cT cO s.heap.size h0 g p1) (cwV 1 hts gq_X12_join_X12_isVolume_474 rfl rfl rfl (by decide +kernel) ⟨Nat.le_of_ble_eq_true rfl, Nat.le_of_ble_eq_true rfl⟩) ⟨fun a U g mk q => by obtain ⟨q0, q1, qP, qK, qD⟩ := q; exact ⟨q0, q1, qP, va_K.moved (u := U) (U := U.calling g mk a) (Vm.Alike.refl U.vm) qK, qD⟩, va_recv hKc hPc (ci := 12) (q0 := 0) rfl rfl, fun U hU hW => ⟨rfl, by rw [hU], by rw [hU]; exact hPc, va_K.moved hW.alike hKc, hDc.weaken (fun _ _ _ _ => trivial)⟩⟩ rfl rfl hl.1 rfl (lv_room (Nat.le_of_ble_eq_true rfl)) dX12_join_76 ⟨Nat.le_of_ble_eq_true rfl, Nat.le_of_ble_eq_true rfl⟩)) (fun r_11 hr_11 => ?_)
          obtain rfl : r_11 = 0 := hr_11
          refine lv_if_eq (tgt := 119) hx hb dX12_join_79 (by decide) (fun _ => ?_) (fun c_12 => absurd (by decide) c_12)
          refine lv_iconst (v := 0) hx hb dX12_join_119 (by decide) ?_
          refine lv_istore (lv' := [(7, .int 0), (6, .int 0), (5, .int 1), (0, .ref h0), (1, .int 3), (2, .int p1), (3, .int p2), (4, .int p3)]) hx hb dX12_join_120 hl (by decide) rfl (fun ls hl => ?_)
          refine lv_iload_n hx hb dX12_join_122 rfl (lv_at hl 5 rfl) ?_
          refine lv_if_lt (tgt := 137) hx hb dX12_join_123 (by decide) (fun c_13 => ?_) (fun c_13 => ?_)
          · refine lv_iload_n hx hb dX12_join_137 rfl (lv_at hl 6 rfl) ?_
            refine lv_if_lt (tgt := 151) hx hb dX12_join_138 (by decide) (fun c_14 => ?_) (fun c_14 => ?_)
            · refine lv_iconst (v := 0) hx hb dX12_join_151 (by decide) ?_
              refine lv_istore (lv' := [(8, .int 0), (7, .int 0), (6, .int 0), (5, .int 1), (0, .ref h0), (1, .int 3), (2, .int p1), (3, .int p2), (4, .int p3)]) hx hb dX12_join_152 hl (by decide) rfl (fun ls hl => ?_)
              refine lv_iload hx hb dX12_join_154 (lv_at hl 1 rfl) ?_
              refine lv_if_eq (tgt := 179) hx hb dX12_join_156 (by decide) (fun _ => ?_) (fun c_15 => absurd (by decide) c_15)
              refine lv_bipush (v := (-2)) hx hb dX12_join_179 (by decide) ?_
              exact W.iret (v := (-2)) hx hb hr (fun t ht hW => ⟨(-2), rfl, rfl, ht⟩) (fun _ h => by cases h) dX12_join_181
            · refine lv_iload_n hx hb dX12_join_141 rfl (lv_at hl 6 rfl) ?_
              refine lv_iload hx hb dX12_join_142 (lv_at hl 7 rfl) ?_
              refine lv_icmp_ne (tgt := 151) hx hb dX12_join_144 (by decide) (fun c_16 => ?_) (fun c_16 => ?_)
              · refine lv_iconst (v := 0) hx hb dX12_join_151 (by decide) ?_
                refine lv_istore (lv' := [(8, .int 0), (7, .int 0), (6, .int 0), (5, .int 1), (0, .ref h0), (1, .int 3), (2, .int p1), (3, .int p2), (4, .int p3)]) hx hb dX12_join_152 hl (by decide) rfl (fun ls hl => ?_)
                refine lv_iload hx hb dX12_join_154 (lv_at hl 1 rfl) ?_
                refine lv_if_eq (tgt := 179) hx hb dX12_join_156 (by decide) (fun _ => ?_) (fun c_17 => absurd (by decide) c_17)
                refine lv_bipush (v := (-2)) hx hb dX12_join_179 (by decide) ?_
                exact W.iret (v := (-2)) hx hb hr (fun t ht hW => ⟨(-2), rfl, rfl, ht⟩) (fun _ h => by cases h) dX12_join_181
              · refine lv_iconst (v := 1) hx hb dX12_join_147 (by decide) ?_
                refine lv_goto (tgt := 152) hx hb dX12_join_148 (by decide) ?_
                refine lv_istore (lv' := [(8, .int 1), (7, .int 0), (6, .int 0), (5, .int 1), (0, .ref h0), (1, .int 3), (2, .int p1), (3, .int p2), (4, .int p3)]) hx hb dX12_join_152 hl (by decide) rfl (fun ls hl => ?_)
                refine lv_iload hx hb dX12_join_154 (lv_at hl 1 rfl) ?_
                refine lv_if_eq (tgt := 179) hx hb dX12_join_156 (by decide) (fun _ => ?_) (fun c_18 => absurd (by decide) c_18)
                refine lv_bipush (v := (-2)) hx hb dX12_join_179 (by decide) ?_
                exact W.iret (v := (-2)) hx hb hr (fun t ht hW => ⟨(-2), rfl, rfl, ht⟩) (fun _ h => by cases h) dX12_join_181
          · refine lv_iload_n hx hb dX12_join_126 rfl (lv_at hl 5 rfl) ?_
            refine lv_iload_n hx hb dX12_join_127 rfl (lv_at hl 6 rfl) ?_
            refine lv_icmp_eq (tgt := 147) hx hb dX12_join_128 (by decide) (fun c_19 => ?_) (fun c_19 => ?_)
            · refine lv_iconst (v := 1) hx hb dX12_join_147 (by decide) ?_
              refine lv_goto (tgt := 152) hx hb dX12_join_148 (by decide) ?_
              refine lv_istore (lv' := [(8, .int 1), (7, .int 0), (6, .int 0), (5, .int 1), (0, .ref h0), (1, .int 3), (2, .int p1), (3, .int p2), (4, .int p3)]) hx hb dX12_join_152 hl (by decide) rfl (fun ls hl => ?_)
              refine lv_iload hx hb dX12_join_154 (lv_at hl 1 rfl) ?_
              refine lv_if_eq (tgt := 179) hx hb dX12_join_156 (by decide) (fun _ => ?_) (fun c_20 => absurd (by decide) c_20)
              refine lv_bipush (v := (-2)) hx hb dX12_join_179 (by decide) ?_
              exact W.iret (v := (-2)) hx hb hr (fun t ht hW => ⟨(-2), rfl, rfl, ht⟩) (fun _ h => by cases h) dX12_join_181
            · refine lv_iload_n hx hb dX12_join_131 rfl (lv_at hl 5 rfl) ?_
              refine lv_iload hx hb dX12_join_132 (lv_at hl 7 rfl) ?_
              refine lv_icmp_eq (tgt := 147) hx hb dX12_join_134 (by decide) (fun c_21 => ?_) (fun c_21 => ?_)
              · refine lv_iconst (v := 1) hx hb dX12_join_147 (by decide) ?_
                refine lv_goto (tgt := 152) hx hb dX12_join_148 (by decide) ?_
                refine lv_istore (lv' := [(8, .int 1), (7, .int 0), (6, .int 0), (5, .int 1), (0, .ref h0), (1, .int 3), (2, .int p1), (3, .int p2), (4, .int p3)]) hx hb dX12_join_152 hl (by decide) rfl (fun ls hl => ?_)
                refine lv_iload hx hb dX12_join_154 (lv_at hl 1 rfl) ?_
                refine lv_if_eq (tgt := 179) hx hb dX12_join_156 (by decide) (fun _ => ?_) (fun c_22 => absurd (by decide) c_22)
                refine lv_bipush (v := (-2)) hx hb dX12_join_179 (by decide) ?_
                exact W.iret (v := (-2)) hx hb hr (fun t ht hW => ⟨(-2), rfl, rfl, ht⟩) (fun _ h => by cases h) dX12_join_181
              · refine lv_iload_n hx hb dX12_join_137 rfl (lv_at hl 6 rfl) ?_
                refine lv_if_lt (tgt := 151) hx hb dX12_join_138 (by decide) (fun c_23 => ?_) (fun c_23 => ?_)
                · refine lv_iconst (v := 0) hx hb dX12_join_151 (by decide) ?_
                  refine lv_istore (lv' := [(8, .int 0), (7, .int 0), (6, .int 0), (5, .int 1), (0, .ref h0), (1, .int 3), (2, .int p1), (3, .int p2), (4, .int p3)]) hx hb dX12_join_152 hl (by decide) rfl (fun ls hl => ?_)
                  refine lv_iload hx hb dX12_join_154 (lv_at hl 1 rfl) ?_
                  refine lv_if_eq (tgt := 179) hx hb dX12_join_156 (by decide) (fun _ => ?_) (fun c_24 => absurd (by decide) c_24)
                  refine lv_bipush (v := (-2)) hx hb dX12_join_179 (by decide) ?_
                  exact W.iret (v := (-2)) hx hb hr (fun t ht hW => ⟨(-2), rfl, rfl, ht⟩) (fun _ h => by cases h) dX12_join_181
                · refine lv_iload_n hx hb dX12_join_141 rfl (lv_at hl 6 rfl) ?_
                  refine lv_iload hx hb dX12_join_142 (lv_at hl 7 rfl) ?_
                  refine lv_icmp_ne (tgt := 151) hx hb dX12_join_144 (by decide) (fun c_25 => ?_) (fun c_25 => ?_)
                  · refine lv_iconst (v := 0) hx hb dX12_join_151 (by decide) ?_
                    refine lv_istore (lv' := [(8, .int 0), (7, .int 0), (6, .int 0), (5, .int 1), (0, .ref h0), (1, .int 3), (2, .int p1), (3, .int p2), (4, .int p3)]) hx hb dX12_join_152 hl (by decide) rfl (fun ls hl => ?_)
                    refine lv_iload hx hb dX12_join_154 (lv_at hl 1 rfl) ?_
                    refine lv_if_eq (tgt := 179) hx hb dX12_join_156 (by decide) (fun _ => ?_) (fun c_26 => absurd (by decide) c_26)
                    refine lv_bipush (v := (-2)) hx hb dX12_join_179 (by decide) ?_
                    exact W.iret (v := (-2)) hx hb hr (fun t ht hW => ⟨(-2), rfl, rfl, ht⟩) (fun _ h => by cases h) dX12_join_181
                  · refine lv_iconst (v := 1) hx hb dX12_join_147 (by decide) ?_
                    refine lv_goto (tgt := 152) hx hb dX12_join_148 (by decide) ?_
                    refine lv_istore (lv' := [(8, .int 1), (7, .int 0), (6, .int 0), (5, .int 1), (0, .ref h0), (1, .int 3), (2, .int p1), (3, .int p2), (4, .int p3)]) hx hb dX12_join_152 hl (by decide) rfl (fun ls hl => ?_)
                    refine lv_iload hx hb dX12_join_154 (lv_at hl 1 rfl) ?_
                    refine lv_if_eq (tgt := 179) hx hb dX12_join_156 (by decide) (fun _ => ?_) (fun c_27 => absurd (by decide) c_27)
                    refine lv_bipush (v := (-2)) hx hb dX12_join_179 (by decide) ?_
                    exact W.iret (v := (-2)) hx hb hr (fun t ht hW => ⟨(-2), rfl, rfl, ht⟩) (fun _ h => by cases h) dX12_join_181
        · exact absurd ⟨by decide, by decide⟩ hno_8
      · obtain rfl : p2 = (-1) := c_3
        refine lv_iconst (v := 1) hx hb dX12_join_32 (by decide) ?_
        refine lv_goto (tgt := 37) hx hb dX12_join_33 (by decide) ?_
        refine lv_iadd hx hb dX12_join_37 ?_
        refine lv_topi (fun f_28 ef_28 => ?_)
        obtain rfl : (1 : Int32) = f_28 := (ef_28.trans (by decide)).symm
        refine lv_iload_n hx hb dX12_join_38 rfl (lv_at hl 2 rfl) ?_
        refine lv_iconst (v := 4) hx hb dX12_join_39 (by decide) ?_
        refine lv_icmp_ne (tgt := 53) hx hb dX12_join_40 (by decide) (fun _ => ?_) (fun c_29 => absurd c_29 (by decide))
        refine lv_iconst (v := 0) hx hb dX12_join_53 (by decide) ?_
        refine lv_iadd hx hb dX12_join_54 ?_
        refine lv_topi (fun f_30 ef_30 => ?_)
        obtain rfl : (1 : Int32) = f_30 := (ef_30.trans (by decide)).symm
        refine lv_istore (lv' := [(6, .int 1), (5, .int 1), (0, .ref h0), (1, .int 3), (2, .int p1), (3, .int (-1)), (4, .int p3)]) hx hb dX12_join_55 hl (by decide) rfl (fun ls hl => ?_)
        refine lv_iload_n hx hb dX12_join_57 rfl (lv_at hl 3 rfl) ?_
        refine lv_i2l (v := 3) hx hb dX12_join_58 (by decide) ?_
        refine lv_lconst (v := 1) hx hb dX12_join_59 (by decide) ?_
        refine lv_ldc2 (v := 4) hx hb hown (hts (.constantLong RX12 472 (4)) (List.mem_of_getElem? (i := 1) rfl)) dX12_join_60 ?_
        refine vp_callSi (va_Run.run (va_runS (As := [.long 3, .long 1, .long 4]) (rest := []) ⟨hx, hb, hml, hown, hts⟩ (c_X12_in l 3 1 4) (va_cwS 3 hts gq_X12_join_X12_in_372 rfl rfl rfl (by decide +kernel) ⟨Nat.le_of_ble_eq_true rfl, Nat.le_of_ble_eq_true rfl⟩) ⟨fun a U g mk q => q, fun U hU hW => ⟨rfl, trivial⟩⟩ rfl rfl hl.1 rfl (lv_room (Nat.le_of_ble_eq_true rfl)) dX12_join_63 ⟨Nat.le_of_ble_eq_true rfl, Nat.le_of_ble_eq_true rfl⟩)) (fun r_31 hr_31 => ?_)
        rcases hr_31 with ⟨rfl, hlo_32, hhi_32⟩ | ⟨rfl, hno_32⟩
        · refine lv_if_eq (tgt := 119) hx hb dX12_join_66 (by decide) (fun c_33 => absurd c_33 (by decide)) (fun _ => ?_)
          refine lv_iload_n hx hb dX12_join_69 rfl (lv_at hl 4 rfl) ?_
          refine lv_iconst (v := (-1)) hx hb dX12_join_70 (by decide) ?_
          refine lv_icmp_eq (tgt := 82) hx hb dX12_join_71 (by decide) (fun c_34 => absurd c_34 c_2) (fun _ => ?_)
          refine lv_aload_n hx hb dX12_join_74 rfl (lv_at hl 2 rfl) ?_
          refine lv_iload_n hx hb dX12_join_75 rfl (lv_at hl 4 rfl) ?_
          have hPc := hP.sub (ws' := [(h0, .inr (12, (fsM g)))]) [0] rfl
          have hDc := hD.sub (ws' := [(h0, .inr (12, (fsM g)))]) [0] (by decide) rfl
          have hKc := hK
          refine vp_callSi (va_Run.run (va_runV (As := [.int p1]) (rest := []) ⟨hx, hb, hml, hown, hts⟩ (c_X12_isVolume l dC dI cI cB cZ cJ cC cP cV cT cO s.heap.size h0 g p1) (cwV 1 hts gq_X12_join_X12_isVolume_474 rfl rfl rfl (by decide +kernel) ⟨Nat.le_of_ble_eq_true rfl, Nat.le_of_ble_eq_true rfl⟩) ⟨fun a U g mk q => by obtain ⟨q0, q1, qP, qK, qD⟩ := q; exact ⟨q0, q1, qP, va_K.moved (u := U) (U := U.calling g mk a) (Vm.Alike.refl U.vm) qK, qD⟩, va_recv hKc hPc (ci := 12) (q0 := 0) rfl rfl, fun U hU hW => ⟨rfl, by rw [hU], by rw [hU]; exact hPc, va_K.moved hW.alike hKc, hDc.weaken (fun _ _ _ _ => trivial)⟩⟩ rfl rfl hl.1 rfl (lv_room (Nat.le_of_ble_eq_true rfl)) dX12_join_76 ⟨Nat.le_of_ble_eq_true rfl, Nat.le_of_ble_eq_true rfl⟩)) (fun r_35 hr_35 => ?_)
          obtain rfl : r_35 = 0 := hr_35
          refine lv_if_eq (tgt := 119) hx hb dX12_join_79 (by decide) (fun _ => ?_) (fun c_36 => absurd (by decide) c_36)
          refine lv_iconst (v := 0) hx hb dX12_join_119 (by decide) ?_
          refine lv_istore (lv' := [(7, .int 0), (6, .int 1), (5, .int 1), (0, .ref h0), (1, .int 3), (2, .int p1), (3, .int (-1)), (4, .int p3)]) hx hb dX12_join_120 hl (by decide) rfl (fun ls hl => ?_)
          refine lv_iload_n hx hb dX12_join_122 rfl (lv_at hl 5 rfl) ?_
          refine lv_if_lt (tgt := 137) hx hb dX12_join_123 (by decide) (fun c_37 => ?_) (fun c_37 => ?_)
          · refine lv_iload_n hx hb dX12_join_137 rfl (lv_at hl 6 rfl) ?_
            refine lv_if_lt (tgt := 151) hx hb dX12_join_138 (by decide) (fun _ => ?_) (fun c_38 => absurd (by decide) c_38)
            refine lv_iconst (v := 0) hx hb dX12_join_151 (by decide) ?_
            refine lv_istore (lv' := [(8, .int 0), (7, .int 0), (6, .int 1), (5, .int 1), (0, .ref h0), (1, .int 3), (2, .int p1), (3, .int (-1)), (4, .int p3)]) hx hb dX12_join_152 hl (by decide) rfl (fun ls hl => ?_)
            refine lv_iload hx hb dX12_join_154 (lv_at hl 1 rfl) ?_
            refine lv_if_eq (tgt := 179) hx hb dX12_join_156 (by decide) (fun _ => ?_) (fun c_39 => absurd (by decide) c_39)
            refine lv_bipush (v := (-2)) hx hb dX12_join_179 (by decide) ?_
            exact W.iret (v := (-2)) hx hb hr (fun t ht hW => ⟨(-2), rfl, rfl, ht⟩) (fun _ h => by cases h) dX12_join_181
          · refine lv_iload_n hx hb dX12_join_126 rfl (lv_at hl 5 rfl) ?_
            refine lv_iload_n hx hb dX12_join_127 rfl (lv_at hl 6 rfl) ?_
            refine lv_icmp_eq (tgt := 147) hx hb dX12_join_128 (by decide) (fun c_40 => absurd c_40 c_2) (fun _ => ?_)
            refine lv_iload_n hx hb dX12_join_131 rfl (lv_at hl 5 rfl) ?_
            refine lv_iload hx hb dX12_join_132 (lv_at hl 7 rfl) ?_
            refine lv_icmp_eq (tgt := 147) hx hb dX12_join_134 (by decide) (fun c_41 => ?_) (fun c_41 => ?_)
            · refine lv_iconst (v := 1) hx hb dX12_join_147 (by decide) ?_
              refine lv_goto (tgt := 152) hx hb dX12_join_148 (by decide) ?_
              refine lv_istore (lv' := [(8, .int 1), (7, .int 0), (6, .int 1), (5, .int 1), (0, .ref h0), (1, .int 3), (2, .int p1), (3, .int (-1)), (4, .int p3)]) hx hb dX12_join_152 hl (by decide) rfl (fun ls hl => ?_)
              refine lv_iload hx hb dX12_join_154 (lv_at hl 1 rfl) ?_
              refine lv_if_eq (tgt := 179) hx hb dX12_join_156 (by decide) (fun _ => ?_) (fun c_42 => absurd (by decide) c_42)
              refine lv_bipush (v := (-2)) hx hb dX12_join_179 (by decide) ?_
              exact W.iret (v := (-2)) hx hb hr (fun t ht hW => ⟨(-2), rfl, rfl, ht⟩) (fun _ h => by cases h) dX12_join_181
            · refine lv_iload_n hx hb dX12_join_137 rfl (lv_at hl 6 rfl) ?_
              refine lv_if_lt (tgt := 151) hx hb dX12_join_138 (by decide) (fun _ => ?_) (fun c_43 => absurd (by decide) c_43)
              refine lv_iconst (v := 0) hx hb dX12_join_151 (by decide) ?_
              refine lv_istore (lv' := [(8, .int 0), (7, .int 0), (6, .int 1), (5, .int 1), (0, .ref h0), (1, .int 3), (2, .int p1), (3, .int (-1)), (4, .int p3)]) hx hb dX12_join_152 hl (by decide) rfl (fun ls hl => ?_)
              refine lv_iload hx hb dX12_join_154 (lv_at hl 1 rfl) ?_
              refine lv_if_eq (tgt := 179) hx hb dX12_join_156 (by decide) (fun _ => ?_) (fun c_44 => absurd (by decide) c_44)
              refine lv_bipush (v := (-2)) hx hb dX12_join_179 (by decide) ?_
              exact W.iret (v := (-2)) hx hb hr (fun t ht hW => ⟨(-2), rfl, rfl, ht⟩) (fun _ h => by cases h) dX12_join_181
        · exact absurd ⟨by decide, by decide⟩ hno_32
    · obtain rfl : p1 = (-1) := c_2
      refine lv_iconst (v := 1) hx hb dX12_join_22 (by decide) ?_
      refine lv_goto (tgt := 27) hx hb dX12_join_23 (by decide) ?_
      refine lv_iload_n hx hb dX12_join_27 rfl (lv_at hl 4 rfl) ?_
      refine lv_iconst (v := (-1)) hx hb dX12_join_28 (by decide) ?_
      refine lv_icmp_ne (tgt := 36) hx hb dX12_join_29 (by decide) (fun c_45 => ?_) (fun c_45 => ?_)
      · refine lv_iconst (v := 0) hx hb dX12_join_36 (by decide) ?_
        refine lv_iadd hx hb dX12_join_37 ?_
        refine lv_topi (fun f_46 ef_46 => ?_)
        obtain rfl : (1 : Int32) = f_46 := (ef_46.trans (by decide)).symm
        refine lv_iload_n hx hb dX12_join_38 rfl (lv_at hl 2 rfl) ?_
        refine lv_iconst (v := 4) hx hb dX12_join_39 (by decide) ?_
        refine lv_icmp_ne (tgt := 53) hx hb dX12_join_40 (by decide) (fun _ => ?_) (fun c_47 => absurd c_47 (by decide))
        refine lv_iconst (v := 0) hx hb dX12_join_53 (by decide) ?_
        refine lv_iadd hx hb dX12_join_54 ?_
        refine lv_topi (fun f_48 ef_48 => ?_)
        obtain rfl : (1 : Int32) = f_48 := (ef_48.trans (by decide)).symm
        refine lv_istore (lv' := [(6, .int 1), (5, .int 1), (0, .ref h0), (1, .int 3), (2, .int (-1)), (3, .int p2), (4, .int p3)]) hx hb dX12_join_55 hl (by decide) rfl (fun ls hl => ?_)
        refine lv_iload_n hx hb dX12_join_57 rfl (lv_at hl 3 rfl) ?_
        refine lv_i2l (v := 3) hx hb dX12_join_58 (by decide) ?_
        refine lv_lconst (v := 1) hx hb dX12_join_59 (by decide) ?_
        refine lv_ldc2 (v := 4) hx hb hown (hts (.constantLong RX12 472 (4)) (List.mem_of_getElem? (i := 1) rfl)) dX12_join_60 ?_
        refine vp_callSi (va_Run.run (va_runS (As := [.long 3, .long 1, .long 4]) (rest := []) ⟨hx, hb, hml, hown, hts⟩ (c_X12_in l 3 1 4) (va_cwS 3 hts gq_X12_join_X12_in_372 rfl rfl rfl (by decide +kernel) ⟨Nat.le_of_ble_eq_true rfl, Nat.le_of_ble_eq_true rfl⟩) ⟨fun a U g mk q => q, fun U hU hW => ⟨rfl, trivial⟩⟩ rfl rfl hl.1 rfl (lv_room (Nat.le_of_ble_eq_true rfl)) dX12_join_63 ⟨Nat.le_of_ble_eq_true rfl, Nat.le_of_ble_eq_true rfl⟩)) (fun r_49 hr_49 => ?_)
        rcases hr_49 with ⟨rfl, hlo_50, hhi_50⟩ | ⟨rfl, hno_50⟩
        · refine lv_if_eq (tgt := 119) hx hb dX12_join_66 (by decide) (fun c_51 => absurd c_51 (by decide)) (fun _ => ?_)
          refine lv_iload_n hx hb dX12_join_69 rfl (lv_at hl 4 rfl) ?_
          refine lv_iconst (v := (-1)) hx hb dX12_join_70 (by decide) ?_
          refine lv_icmp_eq (tgt := 82) hx hb dX12_join_71 (by decide) (fun _ => ?_) (fun c_52 => absurd (by decide) c_52)
          refine lv_iload_n hx hb dX12_join_82 rfl (lv_at hl 5 rfl) ?_
          refine lv_iconst (v := (-1)) hx hb dX12_join_83 (by decide) ?_
          refine lv_icmp_eq (tgt := 95) hx hb dX12_join_84 (by decide) (fun c_53 => absurd c_53 c_45) (fun _ => ?_)
          refine lv_aload_n hx hb dX12_join_87 rfl (lv_at hl 2 rfl) ?_
          refine lv_iload_n hx hb dX12_join_88 rfl (lv_at hl 5 rfl) ?_
          have hPc := hP.sub (ws' := [(h0, .inr (12, (fsM g)))]) [0] rfl
          have hDc := hD.sub (ws' := [(h0, .inr (12, (fsM g)))]) [0] (by decide) rfl
          have hKc := hK
          refine vp_callSi (va_Run.run (va_runV (As := [.int p2]) (rest := []) ⟨hx, hb, hml, hown, hts⟩ (c_X12_isVolume l dC dI cI cB cZ cJ cC cP cV cT cO s.heap.size h0 g p2) (cwV 1 hts gq_X12_join_X12_isVolume_474 rfl rfl rfl (by decide +kernel) ⟨Nat.le_of_ble_eq_true rfl, Nat.le_of_ble_eq_true rfl⟩) ⟨fun a U g mk q => by obtain ⟨q0, q1, qP, qK, qD⟩ := q; exact ⟨q0, q1, qP, va_K.moved (u := U) (U := U.calling g mk a) (Vm.Alike.refl U.vm) qK, qD⟩, va_recv hKc hPc (ci := 12) (q0 := 0) rfl rfl, fun U hU hW => ⟨rfl, by rw [hU], by rw [hU]; exact hPc, va_K.moved hW.alike hKc, hDc.weaken (fun _ _ _ _ => trivial)⟩⟩ rfl rfl hl.1 rfl (lv_room (Nat.le_of_ble_eq_true rfl)) dX12_join_89 ⟨Nat.le_of_ble_eq_true rfl, Nat.le_of_ble_eq_true rfl⟩)) (fun r_54 hr_54 => ?_)
          obtain rfl : r_54 = 0 := hr_54
          refine lv_if_eq (tgt := 119) hx hb dX12_join_92 (by decide) (fun _ => ?_) (fun c_55 => absurd (by decide) c_55)
          refine lv_iconst (v := 0) hx hb dX12_join_119 (by decide) ?_
          refine lv_istore (lv' := [(7, .int 0), (6, .int 1), (5, .int 1), (0, .ref h0), (1, .int 3), (2, .int (-1)), (3, .int p2), (4, .int p3)]) hx hb dX12_join_120 hl (by decide) rfl (fun ls hl => ?_)
          refine lv_iload_n hx hb dX12_join_122 rfl (lv_at hl 5 rfl) ?_
          refine lv_if_lt (tgt := 137) hx hb dX12_join_123 (by decide) (fun _ => ?_) (fun c_56 => absurd (by decide) c_56)
          refine lv_iload_n hx hb dX12_join_137 rfl (lv_at hl 6 rfl) ?_
          refine lv_if_lt (tgt := 151) hx hb dX12_join_138 (by decide) (fun c_57 => ?_) (fun c_57 => ?_)
          · refine lv_iconst (v := 0) hx hb dX12_join_151 (by decide) ?_
            refine lv_istore (lv' := [(8, .int 0), (7, .int 0), (6, .int 1), (5, .int 1), (0, .ref h0), (1, .int 3), (2, .int (-1)), (3, .int p2), (4, .int p3)]) hx hb dX12_join_152 hl (by decide) rfl (fun ls hl => ?_)
            refine lv_iload hx hb dX12_join_154 (lv_at hl 1 rfl) ?_
            refine lv_if_eq (tgt := 179) hx hb dX12_join_156 (by decide) (fun _ => ?_) (fun c_58 => absurd (by decide) c_58)
            refine lv_bipush (v := (-2)) hx hb dX12_join_179 (by decide) ?_
            exact W.iret (v := (-2)) hx hb hr (fun t ht hW => ⟨(-2), rfl, rfl, ht⟩) (fun _ h => by cases h) dX12_join_181
          · refine lv_iload_n hx hb dX12_join_141 rfl (lv_at hl 6 rfl) ?_
            refine lv_iload hx hb dX12_join_142 (lv_at hl 7 rfl) ?_
            refine lv_icmp_ne (tgt := 151) hx hb dX12_join_144 (by decide) (fun c_59 => ?_) (fun c_59 => ?_)
            · refine lv_iconst (v := 0) hx hb dX12_join_151 (by decide) ?_
              refine lv_istore (lv' := [(8, .int 0), (7, .int 0), (6, .int 1), (5, .int 1), (0, .ref h0), (1, .int 3), (2, .int (-1)), (3, .int p2), (4, .int p3)]) hx hb dX12_join_152 hl (by decide) rfl (fun ls hl => ?_)
              refine lv_iload hx hb dX12_join_154 (lv_at hl 1 rfl) ?_
              refine lv_if_eq (tgt := 179) hx hb dX12_join_156 (by decide) (fun _ => ?_) (fun c_60 => absurd (by decide) c_60)
              refine lv_bipush (v := (-2)) hx hb dX12_join_179 (by decide) ?_
              exact W.iret (v := (-2)) hx hb hr (fun t ht hW => ⟨(-2), rfl, rfl, ht⟩) (fun _ h => by cases h) dX12_join_181
            · refine lv_iconst (v := 1) hx hb dX12_join_147 (by decide) ?_
              refine lv_goto (tgt := 152) hx hb dX12_join_148 (by decide) ?_
              refine lv_istore (lv' := [(8, .int 1), (7, .int 0), (6, .int 1), (5, .int 1), (0, .ref h0), (1, .int 3), (2, .int (-1)), (3, .int p2), (4, .int p3)]) hx hb dX12_join_152 hl (by decide) rfl (fun ls hl => ?_)
              refine lv_iload hx hb dX12_join_154 (lv_at hl 1 rfl) ?_
              refine lv_if_eq (tgt := 179) hx hb dX12_join_156 (by decide) (fun _ => ?_) (fun c_61 => absurd (by decide) c_61)
              refine lv_bipush (v := (-2)) hx hb dX12_join_179 (by decide) ?_
              exact W.iret (v := (-2)) hx hb hr (fun t ht hW => ⟨(-2), rfl, rfl, ht⟩) (fun _ h => by cases h) dX12_join_181
        · exact absurd ⟨by decide, by decide⟩ hno_50
      · obtain rfl : p2 = (-1) := c_45
        refine lv_iconst (v := 1) hx hb dX12_join_32 (by decide) ?_
        refine lv_goto (tgt := 37) hx hb dX12_join_33 (by decide) ?_
        refine lv_iadd hx hb dX12_join_37 ?_
        refine lv_topi (fun f_62 ef_62 => ?_)
        obtain rfl : (2 : Int32) = f_62 := (ef_62.trans (by decide)).symm
        refine lv_iload_n hx hb dX12_join_38 rfl (lv_at hl 2 rfl) ?_
        refine lv_iconst (v := 4) hx hb dX12_join_39 (by decide) ?_
        refine lv_icmp_ne (tgt := 53) hx hb dX12_join_40 (by decide) (fun _ => ?_) (fun c_63 => absurd c_63 (by decide))
        refine lv_iconst (v := 0) hx hb dX12_join_53 (by decide) ?_
        refine lv_iadd hx hb dX12_join_54 ?_
        refine lv_topi (fun f_64 ef_64 => ?_)
        obtain rfl : (2 : Int32) = f_64 := (ef_64.trans (by decide)).symm
        refine lv_istore (lv' := [(6, .int 2), (5, .int 1), (0, .ref h0), (1, .int 3), (2, .int (-1)), (3, .int (-1)), (4, .int p3)]) hx hb dX12_join_55 hl (by decide) rfl (fun ls hl => ?_)
        refine lv_iload_n hx hb dX12_join_57 rfl (lv_at hl 3 rfl) ?_
        refine lv_i2l (v := 3) hx hb dX12_join_58 (by decide) ?_
        refine lv_lconst (v := 1) hx hb dX12_join_59 (by decide) ?_
        refine lv_ldc2 (v := 4) hx hb hown (hts (.constantLong RX12 472 (4)) (List.mem_of_getElem? (i := 1) rfl)) dX12_join_60 ?_
        refine vp_callSi (va_Run.run (va_runS (As := [.long 3, .long 1, .long 4]) (rest := []) ⟨hx, hb, hml, hown, hts⟩ (c_X12_in l 3 1 4) (va_cwS 3 hts gq_X12_join_X12_in_372 rfl rfl rfl (by decide +kernel) ⟨Nat.le_of_ble_eq_true rfl, Nat.le_of_ble_eq_true rfl⟩) ⟨fun a U g mk q => q, fun U hU hW => ⟨rfl, trivial⟩⟩ rfl rfl hl.1 rfl (lv_room (Nat.le_of_ble_eq_true rfl)) dX12_join_63 ⟨Nat.le_of_ble_eq_true rfl, Nat.le_of_ble_eq_true rfl⟩)) (fun r_65 hr_65 => ?_)
        rcases hr_65 with ⟨rfl, hlo_66, hhi_66⟩ | ⟨rfl, hno_66⟩
        · refine lv_if_eq (tgt := 119) hx hb dX12_join_66 (by decide) (fun c_67 => absurd c_67 (by decide)) (fun _ => ?_)
          refine lv_iload_n hx hb dX12_join_69 rfl (lv_at hl 4 rfl) ?_
          refine lv_iconst (v := (-1)) hx hb dX12_join_70 (by decide) ?_
          refine lv_icmp_eq (tgt := 82) hx hb dX12_join_71 (by decide) (fun _ => ?_) (fun c_68 => absurd (by decide) c_68)
          refine lv_iload_n hx hb dX12_join_82 rfl (lv_at hl 5 rfl) ?_
          refine lv_iconst (v := (-1)) hx hb dX12_join_83 (by decide) ?_
          refine lv_icmp_eq (tgt := 95) hx hb dX12_join_84 (by decide) (fun _ => ?_) (fun c_69 => absurd (by decide) c_69)
          refine lv_iload hx hb dX12_join_95 (lv_at hl 6 rfl) ?_
          refine lv_iconst (v := (-1)) hx hb dX12_join_97 (by decide) ?_
          refine lv_icmp_eq (tgt := 115) hx hb dX12_join_98 (by decide) (fun c_70 => ?_) (fun c_70 => ?_)
          · obtain rfl : p3 = (-1) := c_70
            refine lv_iconst (v := 1) hx hb dX12_join_115 (by decide) ?_
            refine lv_goto (tgt := 120) hx hb dX12_join_116 (by decide) ?_
            refine lv_istore (lv' := [(7, .int 1), (6, .int 2), (5, .int 1), (0, .ref h0), (1, .int 3), (2, .int (-1)), (3, .int (-1)), (4, .int (-1))]) hx hb dX12_join_120 hl (by decide) rfl (fun ls hl => ?_)
            refine lv_iload_n hx hb dX12_join_122 rfl (lv_at hl 5 rfl) ?_
            refine lv_if_lt (tgt := 137) hx hb dX12_join_123 (by decide) (fun _ => ?_) (fun c_71 => absurd (by decide) c_71)
            refine lv_iload_n hx hb dX12_join_137 rfl (lv_at hl 6 rfl) ?_
            refine lv_if_lt (tgt := 151) hx hb dX12_join_138 (by decide) (fun _ => ?_) (fun c_72 => absurd (by decide) c_72)
            refine lv_iconst (v := 0) hx hb dX12_join_151 (by decide) ?_
            refine lv_istore (lv' := [(8, .int 0), (7, .int 1), (6, .int 2), (5, .int 1), (0, .ref h0), (1, .int 3), (2, .int (-1)), (3, .int (-1)), (4, .int (-1))]) hx hb dX12_join_152 hl (by decide) rfl (fun ls hl => ?_)
            refine lv_iload hx hb dX12_join_154 (lv_at hl 1 rfl) ?_
            refine lv_if_eq (tgt := 179) hx hb dX12_join_156 (by decide) (fun c_73 => absurd c_73 (by decide)) (fun _ => ?_)
            refine lv_iload hx hb dX12_join_159 (lv_at hl 0 rfl) ?_
            refine lv_if_ne (tgt := 179) hx hb dX12_join_161 (by decide) (fun c_74 => absurd (by decide) c_74) (fun _ => ?_)
            refine lv_iload hx hb dX12_join_164 (lv_at hl 2 rfl) ?_
            refine lv_iload hx hb dX12_join_166 (lv_at hl 3 rfl) ?_
            refine lv_if_eq (tgt := 175) hx hb dX12_join_168 (by decide) (fun c_75 => absurd c_75 (by decide)) (fun _ => ?_)
            refine lv_iconst (v := 1) hx hb dX12_join_171 (by decide) ?_
            refine lv_goto (tgt := 176) hx hb dX12_join_172 (by decide) ?_
            refine lv_icmp_le (tgt := 182) hx hb dX12_join_176 (by decide) (fun c_76 => absurd c_76 (by decide)) (fun _ => ?_)
            refine lv_bipush (v := (-2)) hx hb dX12_join_179 (by decide) ?_
            exact W.iret (v := (-2)) hx hb hr (fun t ht hW => ⟨(-2), rfl, rfl, ht⟩) (fun _ h => by cases h) dX12_join_181
          · refine lv_aload_n hx hb dX12_join_101 rfl (lv_at hl 2 rfl) ?_
            refine lv_iload hx hb dX12_join_102 (lv_at hl 6 rfl) ?_
            have hPc := hP.sub (ws' := [(h0, .inr (12, (fsM g)))]) [0] rfl
            have hDc := hD.sub (ws' := [(h0, .inr (12, (fsM g)))]) [0] (by decide) rfl
            have hKc := hK
            refine vp_callSi (va_Run.run (va_runV (As := [.int p3]) (rest := []) ⟨hx, hb, hml, hown, hts⟩ (c_X12_isVolume l dC dI cI cB cZ cJ cC cP cV cT cO s.heap.size h0 g p3) (cwV 1 hts gq_X12_join_X12_isVolume_474 rfl rfl rfl (by decide +kernel) ⟨Nat.le_of_ble_eq_true rfl, Nat.le_of_ble_eq_true rfl⟩) ⟨fun a U g mk q => by obtain ⟨q0, q1, qP, qK, qD⟩ := q; exact ⟨q0, q1, qP, va_K.moved (u := U) (U := U.calling g mk a) (Vm.Alike.refl U.vm) qK, qD⟩, va_recv hKc hPc (ci := 12) (q0 := 0) rfl rfl, fun U hU hW => ⟨rfl, by rw [hU], by rw [hU]; exact hPc, va_K.moved hW.alike hKc, hDc.weaken (fun _ _ _ _ => trivial)⟩⟩ rfl rfl hl.1 rfl (lv_room (Nat.le_of_ble_eq_true rfl)) dX12_join_104 ⟨Nat.le_of_ble_eq_true rfl, Nat.le_of_ble_eq_true rfl⟩)) (fun r_77 hr_77 => ?_)
            obtain rfl : r_77 = 0 := hr_77
            refine lv_if_eq (tgt := 119) hx hb dX12_join_107 (by decide) (fun _ => ?_) (fun c_78 => absurd (by decide) c_78)
            refine lv_iconst (v := 0) hx hb dX12_join_119 (by decide) ?_
            refine lv_istore (lv' := [(7, .int 0), (6, .int 2), (5, .int 1), (0, .ref h0), (1, .int 3), (2, .int (-1)), (3, .int (-1)), (4, .int p3)]) hx hb dX12_join_120 hl (by decide) rfl (fun ls hl => ?_)
            refine lv_iload_n hx hb dX12_join_122 rfl (lv_at hl 5 rfl) ?_
            refine lv_if_lt (tgt := 137) hx hb dX12_join_123 (by decide) (fun _ => ?_) (fun c_79 => absurd (by decide) c_79)
            refine lv_iload_n hx hb dX12_join_137 rfl (lv_at hl 6 rfl) ?_
            refine lv_if_lt (tgt := 151) hx hb dX12_join_138 (by decide) (fun _ => ?_) (fun c_80 => absurd (by decide) c_80)
            refine lv_iconst (v := 0) hx hb dX12_join_151 (by decide) ?_
            refine lv_istore (lv' := [(8, .int 0), (7, .int 0), (6, .int 2), (5, .int 1), (0, .ref h0), (1, .int 3), (2, .int (-1)), (3, .int (-1)), (4, .int p3)]) hx hb dX12_join_152 hl (by decide) rfl (fun ls hl => ?_)
            refine lv_iload hx hb dX12_join_154 (lv_at hl 1 rfl) ?_
            refine lv_if_eq (tgt := 179) hx hb dX12_join_156 (by decide) (fun _ => ?_) (fun c_81 => absurd (by decide) c_81)
            refine lv_bipush (v := (-2)) hx hb dX12_join_179 (by decide) ?_
            exact W.iret (v := (-2)) hx hb hr (fun t ht hW => ⟨(-2), rfl, rfl, ht⟩) (fun _ h => by cases h) dX12_join_181
        · exact absurd ⟨by decide, by decide⟩ hno_66
  · refine lv_iload_n hx hb dX12_join_5 rfl (lv_at hl 1 rfl) ?_
    refine lv_iconst (v := 4) hx hb dX12_join_6 (by decide) ?_
    refine lv_icmp_ne (tgt := 14) hx hb dX12_join_7 (by decide) (fun c_82 => ?_) (fun c_82 => ?_)
    · refine lv_iconst (v := 0) hx hb dX12_join_14 (by decide) ?_
      refine lv_istore (lv' := [(5, .int 0), (0, .ref h0), (1, .int p0), (2, .int p1), (3, .int p2), (4, .int p3)]) hx hb dX12_join_15 hl (by decide) rfl (fun ls hl => ?_)
      refine lv_iload_n hx hb dX12_join_17 rfl (lv_at hl 3 rfl) ?_
      refine lv_iconst (v := (-1)) hx hb dX12_join_18 (by decide) ?_
      refine lv_icmp_ne (tgt := 26) hx hb dX12_join_19 (by decide) (fun c_83 => ?_) (fun c_83 => ?_)
      · refine lv_iconst (v := 0) hx hb dX12_join_26 (by decide) ?_
        refine lv_iload_n hx hb dX12_join_27 rfl (lv_at hl 4 rfl) ?_
        refine lv_iconst (v := (-1)) hx hb dX12_join_28 (by decide) ?_
        refine lv_icmp_ne (tgt := 36) hx hb dX12_join_29 (by decide) (fun c_84 => ?_) (fun c_84 => ?_)
        · refine lv_iconst (v := 0) hx hb dX12_join_36 (by decide) ?_
          refine lv_iadd hx hb dX12_join_37 ?_
          refine lv_topi (fun f_85 ef_85 => ?_)
          obtain rfl : (0 : Int32) = f_85 := (ef_85.trans (by decide)).symm
          refine lv_iload_n hx hb dX12_join_38 rfl (lv_at hl 2 rfl) ?_
          refine lv_iconst (v := 4) hx hb dX12_join_39 (by decide) ?_
          refine lv_icmp_ne (tgt := 53) hx hb dX12_join_40 (by decide) (fun _ => ?_) (fun c_86 => absurd c_86 c_82)
          refine lv_iconst (v := 0) hx hb dX12_join_53 (by decide) ?_
          refine lv_iadd hx hb dX12_join_54 ?_
          refine lv_topi (fun f_87 ef_87 => ?_)
          obtain rfl : (0 : Int32) = f_87 := (ef_87.trans (by decide)).symm
          refine lv_istore (lv' := [(6, .int 0), (5, .int 0), (0, .ref h0), (1, .int p0), (2, .int p1), (3, .int p2), (4, .int p3)]) hx hb dX12_join_55 hl (by decide) rfl (fun ls hl => ?_)
          refine lv_iload_n hx hb dX12_join_57 rfl (lv_at hl 3 rfl) ?_
          refine lv_i2l hx hb dX12_join_58 rfl ?_
          refine lv_lconst (v := 1) hx hb dX12_join_59 (by decide) ?_
          refine lv_ldc2 (v := 4) hx hb hown (hts (.constantLong RX12 472 (4)) (List.mem_of_getElem? (i := 1) rfl)) dX12_join_60 ?_
          refine vp_callSi (va_Run.run (va_runS (As := [.long p0.toInt64, .long 1, .long 4]) (rest := []) ⟨hx, hb, hml, hown, hts⟩ (c_X12_in l p0.toInt64 1 4) (va_cwS 3 hts gq_X12_join_X12_in_372 rfl rfl rfl (by decide +kernel) ⟨Nat.le_of_ble_eq_true rfl, Nat.le_of_ble_eq_true rfl⟩) ⟨fun a U g mk q => q, fun U hU hW => ⟨rfl, trivial⟩⟩ rfl rfl hl.1 rfl (lv_room (Nat.le_of_ble_eq_true rfl)) dX12_join_63 ⟨Nat.le_of_ble_eq_true rfl, Nat.le_of_ble_eq_true rfl⟩)) (fun r_88 hr_88 => ?_)
          rcases hr_88 with ⟨rfl, hlo_89, hhi_89⟩ | ⟨rfl, hno_89⟩
          · refine lv_if_eq (tgt := 119) hx hb dX12_join_66 (by decide) (fun c_90 => absurd c_90 (by decide)) (fun _ => ?_)
            refine lv_iload_n hx hb dX12_join_69 rfl (lv_at hl 4 rfl) ?_
            refine lv_iconst (v := (-1)) hx hb dX12_join_70 (by decide) ?_
            refine lv_icmp_eq (tgt := 82) hx hb dX12_join_71 (by decide) (fun c_91 => absurd c_91 c_83) (fun _ => ?_)
            refine lv_aload_n hx hb dX12_join_74 rfl (lv_at hl 2 rfl) ?_
            refine lv_iload_n hx hb dX12_join_75 rfl (lv_at hl 4 rfl) ?_
            have hPc := hP.sub (ws' := [(h0, .inr (12, (fsM g)))]) [0] rfl
            have hDc := hD.sub (ws' := [(h0, .inr (12, (fsM g)))]) [0] (by decide) rfl
            have hKc := hK
            refine vp_callSi (va_Run.run (va_runV (As := [.int p1]) (rest := []) ⟨hx, hb, hml, hown, hts⟩ (c_X12_isVolume l dC dI cI cB cZ cJ cC cP cV cT cO s.heap.size h0 g p1) (cwV 1 hts gq_X12_join_X12_isVolume_474 rfl rfl rfl (by decide +kernel) ⟨Nat.le_of_ble_eq_true rfl, Nat.le_of_ble_eq_true rfl⟩) ⟨fun a U g mk q => by obtain ⟨q0, q1, qP, qK, qD⟩ := q; exact ⟨q0, q1, qP, va_K.moved (u := U) (U := U.calling g mk a) (Vm.Alike.refl U.vm) qK, qD⟩, va_recv hKc hPc (ci := 12) (q0 := 0) rfl rfl, fun U hU hW => ⟨rfl, by rw [hU], by rw [hU]; exact hPc, va_K.moved hW.alike hKc, hDc.weaken (fun _ _ _ _ => trivial)⟩⟩ rfl rfl hl.1 rfl (lv_room (Nat.le_of_ble_eq_true rfl)) dX12_join_76 ⟨Nat.le_of_ble_eq_true rfl, Nat.le_of_ble_eq_true rfl⟩)) (fun r_92 hr_92 => ?_)
            obtain rfl : r_92 = 0 := hr_92
            refine lv_if_eq (tgt := 119) hx hb dX12_join_79 (by decide) (fun _ => ?_) (fun c_93 => absurd (by decide) c_93)
            refine lv_iconst (v := 0) hx hb dX12_join_119 (by decide) ?_
            refine lv_istore (lv' := [(7, .int 0), (6, .int 0), (5, .int 0), (0, .ref h0), (1, .int p0), (2, .int p1), (3, .int p2), (4, .int p3)]) hx hb dX12_join_120 hl (by decide) rfl (fun ls hl => ?_)
            refine lv_iload_n hx hb dX12_join_122 rfl (lv_at hl 5 rfl) ?_
            refine lv_if_lt (tgt := 137) hx hb dX12_join_123 (by decide) (fun c_94 => ?_) (fun c_94 => ?_)
            · refine lv_iload_n hx hb dX12_join_137 rfl (lv_at hl 6 rfl) ?_
              refine lv_if_lt (tgt := 151) hx hb dX12_join_138 (by decide) (fun c_95 => ?_) (fun c_95 => ?_)
              · refine lv_iconst (v := 0) hx hb dX12_join_151 (by decide) ?_
                refine lv_istore (lv' := [(8, .int 0), (7, .int 0), (6, .int 0), (5, .int 0), (0, .ref h0), (1, .int p0), (2, .int p1), (3, .int p2), (4, .int p3)]) hx hb dX12_join_152 hl (by decide) rfl (fun ls hl => ?_)
                refine lv_iload hx hb dX12_join_154 (lv_at hl 1 rfl) ?_
                refine lv_if_eq (tgt := 179) hx hb dX12_join_156 (by decide) (fun _ => ?_) (fun c_96 => absurd (by decide) c_96)
                refine lv_bipush (v := (-2)) hx hb dX12_join_179 (by decide) ?_
                exact W.iret (v := (-2)) hx hb hr (fun t ht hW => ⟨(-2), rfl, rfl, ht⟩) (fun _ h => by cases h) dX12_join_181
              · refine lv_iload_n hx hb dX12_join_141 rfl (lv_at hl 6 rfl) ?_
                refine lv_iload hx hb dX12_join_142 (lv_at hl 7 rfl) ?_
                refine lv_icmp_ne (tgt := 151) hx hb dX12_join_144 (by decide) (fun c_97 => ?_) (fun c_97 => ?_)
                · refine lv_iconst (v := 0) hx hb dX12_join_151 (by decide) ?_
                  refine lv_istore (lv' := [(8, .int 0), (7, .int 0), (6, .int 0), (5, .int 0), (0, .ref h0), (1, .int p0), (2, .int p1), (3, .int p2), (4, .int p3)]) hx hb dX12_join_152 hl (by decide) rfl (fun ls hl => ?_)
                  refine lv_iload hx hb dX12_join_154 (lv_at hl 1 rfl) ?_
                  refine lv_if_eq (tgt := 179) hx hb dX12_join_156 (by decide) (fun _ => ?_) (fun c_98 => absurd (by decide) c_98)
                  refine lv_bipush (v := (-2)) hx hb dX12_join_179 (by decide) ?_
                  exact W.iret (v := (-2)) hx hb hr (fun t ht hW => ⟨(-2), rfl, rfl, ht⟩) (fun _ h => by cases h) dX12_join_181
                · refine lv_iconst (v := 1) hx hb dX12_join_147 (by decide) ?_
                  refine lv_goto (tgt := 152) hx hb dX12_join_148 (by decide) ?_
                  refine lv_istore (lv' := [(8, .int 1), (7, .int 0), (6, .int 0), (5, .int 0), (0, .ref h0), (1, .int p0), (2, .int p1), (3, .int p2), (4, .int p3)]) hx hb dX12_join_152 hl (by decide) rfl (fun ls hl => ?_)
                  refine lv_iload hx hb dX12_join_154 (lv_at hl 1 rfl) ?_
                  refine lv_if_eq (tgt := 179) hx hb dX12_join_156 (by decide) (fun _ => ?_) (fun c_99 => absurd (by decide) c_99)
                  refine lv_bipush (v := (-2)) hx hb dX12_join_179 (by decide) ?_
                  exact W.iret (v := (-2)) hx hb hr (fun t ht hW => ⟨(-2), rfl, rfl, ht⟩) (fun _ h => by cases h) dX12_join_181
            · refine lv_iload_n hx hb dX12_join_126 rfl (lv_at hl 5 rfl) ?_
              refine lv_iload_n hx hb dX12_join_127 rfl (lv_at hl 6 rfl) ?_
              refine lv_icmp_eq (tgt := 147) hx hb dX12_join_128 (by decide) (fun c_100 => ?_) (fun c_100 => ?_)
              · refine lv_iconst (v := 1) hx hb dX12_join_147 (by decide) ?_
                refine lv_goto (tgt := 152) hx hb dX12_join_148 (by decide) ?_
                refine lv_istore (lv' := [(8, .int 1), (7, .int 0), (6, .int 0), (5, .int 0), (0, .ref h0), (1, .int p0), (2, .int p1), (3, .int p2), (4, .int p3)]) hx hb dX12_join_152 hl (by decide) rfl (fun ls hl => ?_)
                refine lv_iload hx hb dX12_join_154 (lv_at hl 1 rfl) ?_
                refine lv_if_eq (tgt := 179) hx hb dX12_join_156 (by decide) (fun _ => ?_) (fun c_101 => absurd (by decide) c_101)
                refine lv_bipush (v := (-2)) hx hb dX12_join_179 (by decide) ?_
                exact W.iret (v := (-2)) hx hb hr (fun t ht hW => ⟨(-2), rfl, rfl, ht⟩) (fun _ h => by cases h) dX12_join_181
              · refine lv_iload_n hx hb dX12_join_131 rfl (lv_at hl 5 rfl) ?_
                refine lv_iload hx hb dX12_join_132 (lv_at hl 7 rfl) ?_
                refine lv_icmp_eq (tgt := 147) hx hb dX12_join_134 (by decide) (fun c_102 => ?_) (fun c_102 => ?_)
                · refine lv_iconst (v := 1) hx hb dX12_join_147 (by decide) ?_
                  refine lv_goto (tgt := 152) hx hb dX12_join_148 (by decide) ?_
                  refine lv_istore (lv' := [(8, .int 1), (7, .int 0), (6, .int 0), (5, .int 0), (0, .ref h0), (1, .int p0), (2, .int p1), (3, .int p2), (4, .int p3)]) hx hb dX12_join_152 hl (by decide) rfl (fun ls hl => ?_)
                  refine lv_iload hx hb dX12_join_154 (lv_at hl 1 rfl) ?_
                  refine lv_if_eq (tgt := 179) hx hb dX12_join_156 (by decide) (fun _ => ?_) (fun c_103 => absurd (by decide) c_103)
                  refine lv_bipush (v := (-2)) hx hb dX12_join_179 (by decide) ?_
                  exact W.iret (v := (-2)) hx hb hr (fun t ht hW => ⟨(-2), rfl, rfl, ht⟩) (fun _ h => by cases h) dX12_join_181
                · refine lv_iload_n hx hb dX12_join_137 rfl (lv_at hl 6 rfl) ?_
                  refine lv_if_lt (tgt := 151) hx hb dX12_join_138 (by decide) (fun c_104 => ?_) (fun c_104 => ?_)
                  · refine lv_iconst (v := 0) hx hb dX12_join_151 (by decide) ?_
                    refine lv_istore (lv' := [(8, .int 0), (7, .int 0), (6, .int 0), (5, .int 0), (0, .ref h0), (1, .int p0), (2, .int p1), (3, .int p2), (4, .int p3)]) hx hb dX12_join_152 hl (by decide) rfl (fun ls hl => ?_)
                    refine lv_iload hx hb dX12_join_154 (lv_at hl 1 rfl) ?_
                    refine lv_if_eq (tgt := 179) hx hb dX12_join_156 (by decide) (fun _ => ?_) (fun c_105 => absurd (by decide) c_105)
                    refine lv_bipush (v := (-2)) hx hb dX12_join_179 (by decide) ?_
                    exact W.iret (v := (-2)) hx hb hr (fun t ht hW => ⟨(-2), rfl, rfl, ht⟩) (fun _ h => by cases h) dX12_join_181
                  · refine lv_iload_n hx hb dX12_join_141 rfl (lv_at hl 6 rfl) ?_
                    refine lv_iload hx hb dX12_join_142 (lv_at hl 7 rfl) ?_
                    refine lv_icmp_ne (tgt := 151) hx hb dX12_join_144 (by decide) (fun c_106 => ?_) (fun c_106 => ?_)
                    · refine lv_iconst (v := 0) hx hb dX12_join_151 (by decide) ?_
                      refine lv_istore (lv' := [(8, .int 0), (7, .int 0), (6, .int 0), (5, .int 0), (0, .ref h0), (1, .int p0), (2, .int p1), (3, .int p2), (4, .int p3)]) hx hb dX12_join_152 hl (by decide) rfl (fun ls hl => ?_)
                      refine lv_iload hx hb dX12_join_154 (lv_at hl 1 rfl) ?_
                      refine lv_if_eq (tgt := 179) hx hb dX12_join_156 (by decide) (fun _ => ?_) (fun c_107 => absurd (by decide) c_107)
                      refine lv_bipush (v := (-2)) hx hb dX12_join_179 (by decide) ?_
                      exact W.iret (v := (-2)) hx hb hr (fun t ht hW => ⟨(-2), rfl, rfl, ht⟩) (fun _ h => by cases h) dX12_join_181
                    · refine lv_iconst (v := 1) hx hb dX12_join_147 (by decide) ?_
                      refine lv_goto (tgt := 152) hx hb dX12_join_148 (by decide) ?_
                      refine lv_istore (lv' := [(8, .int 1), (7, .int 0), (6, .int 0), (5, .int 0), (0, .ref h0), (1, .int p0), (2, .int p1), (3, .int p2), (4, .int p3)]) hx hb dX12_join_152 hl (by decide) rfl (fun ls hl => ?_)
                      refine lv_iload hx hb dX12_join_154 (lv_at hl 1 rfl) ?_
                      refine lv_if_eq (tgt := 179) hx hb dX12_join_156 (by decide) (fun _ => ?_) (fun c_108 => absurd (by decide) c_108)
                      refine lv_bipush (v := (-2)) hx hb dX12_join_179 (by decide) ?_
                      exact W.iret (v := (-2)) hx hb hr (fun t ht hW => ⟨(-2), rfl, rfl, ht⟩) (fun _ h => by cases h) dX12_join_181
          · refine lv_if_eq (tgt := 119) hx hb dX12_join_66 (by decide) (fun _ => ?_) (fun c_109 => absurd (by decide) c_109)
            refine lv_iconst (v := 0) hx hb dX12_join_119 (by decide) ?_
            refine lv_istore (lv' := [(7, .int 0), (6, .int 0), (5, .int 0), (0, .ref h0), (1, .int p0), (2, .int p1), (3, .int p2), (4, .int p3)]) hx hb dX12_join_120 hl (by decide) rfl (fun ls hl => ?_)
            refine lv_iload_n hx hb dX12_join_122 rfl (lv_at hl 5 rfl) ?_
            refine lv_if_lt (tgt := 137) hx hb dX12_join_123 (by decide) (fun c_110 => ?_) (fun c_110 => ?_)
            · refine lv_iload_n hx hb dX12_join_137 rfl (lv_at hl 6 rfl) ?_
              refine lv_if_lt (tgt := 151) hx hb dX12_join_138 (by decide) (fun c_111 => ?_) (fun c_111 => ?_)
              · refine lv_iconst (v := 0) hx hb dX12_join_151 (by decide) ?_
                refine lv_istore (lv' := [(8, .int 0), (7, .int 0), (6, .int 0), (5, .int 0), (0, .ref h0), (1, .int p0), (2, .int p1), (3, .int p2), (4, .int p3)]) hx hb dX12_join_152 hl (by decide) rfl (fun ls hl => ?_)
                refine lv_iload hx hb dX12_join_154 (lv_at hl 1 rfl) ?_
                refine lv_if_eq (tgt := 179) hx hb dX12_join_156 (by decide) (fun _ => ?_) (fun c_112 => absurd (by decide) c_112)
                refine lv_bipush (v := (-2)) hx hb dX12_join_179 (by decide) ?_
                exact W.iret (v := (-2)) hx hb hr (fun t ht hW => ⟨(-2), rfl, rfl, ht⟩) (fun _ h => by cases h) dX12_join_181
              · refine lv_iload_n hx hb dX12_join_141 rfl (lv_at hl 6 rfl) ?_
                refine lv_iload hx hb dX12_join_142 (lv_at hl 7 rfl) ?_
                refine lv_icmp_ne (tgt := 151) hx hb dX12_join_144 (by decide) (fun c_113 => ?_) (fun c_113 => ?_)
                · refine lv_iconst (v := 0) hx hb dX12_join_151 (by decide) ?_
                  refine lv_istore (lv' := [(8, .int 0), (7, .int 0), (6, .int 0), (5, .int 0), (0, .ref h0), (1, .int p0), (2, .int p1), (3, .int p2), (4, .int p3)]) hx hb dX12_join_152 hl (by decide) rfl (fun ls hl => ?_)
                  refine lv_iload hx hb dX12_join_154 (lv_at hl 1 rfl) ?_
                  refine lv_if_eq (tgt := 179) hx hb dX12_join_156 (by decide) (fun _ => ?_) (fun c_114 => absurd (by decide) c_114)
                  refine lv_bipush (v := (-2)) hx hb dX12_join_179 (by decide) ?_
                  exact W.iret (v := (-2)) hx hb hr (fun t ht hW => ⟨(-2), rfl, rfl, ht⟩) (fun _ h => by cases h) dX12_join_181
                · refine lv_iconst (v := 1) hx hb dX12_join_147 (by decide) ?_
                  refine lv_goto (tgt := 152) hx hb dX12_join_148 (by decide) ?_
                  refine lv_istore (lv' := [(8, .int 1), (7, .int 0), (6, .int 0), (5, .int 0), (0, .ref h0), (1, .int p0), (2, .int p1), (3, .int p2), (4, .int p3)]) hx hb dX12_join_152 hl (by decide) rfl (fun ls hl => ?_)
                  refine lv_iload hx hb dX12_join_154 (lv_at hl 1 rfl) ?_
                  refine lv_if_eq (tgt := 179) hx hb dX12_join_156 (by decide) (fun _ => ?_) (fun c_115 => absurd (by decide) c_115)
                  refine lv_bipush (v := (-2)) hx hb dX12_join_179 (by decide) ?_
                  exact W.iret (v := (-2)) hx hb hr (fun t ht hW => ⟨(-2), rfl, rfl, ht⟩) (fun _ h => by cases h) dX12_join_181
            · refine lv_iload_n hx hb dX12_join_126 rfl (lv_at hl 5 rfl) ?_
              refine lv_iload_n hx hb dX12_join_127 rfl (lv_at hl 6 rfl) ?_
              refine lv_icmp_eq (tgt := 147) hx hb dX12_join_128 (by decide) (fun c_116 => ?_) (fun c_116 => ?_)
              · refine lv_iconst (v := 1) hx hb dX12_join_147 (by decide) ?_
                refine lv_goto (tgt := 152) hx hb dX12_join_148 (by decide) ?_
                refine lv_istore (lv' := [(8, .int 1), (7, .int 0), (6, .int 0), (5, .int 0), (0, .ref h0), (1, .int p0), (2, .int p1), (3, .int p2), (4, .int p3)]) hx hb dX12_join_152 hl (by decide) rfl (fun ls hl => ?_)
                refine lv_iload hx hb dX12_join_154 (lv_at hl 1 rfl) ?_
                refine lv_if_eq (tgt := 179) hx hb dX12_join_156 (by decide) (fun _ => ?_) (fun c_117 => absurd (by decide) c_117)
                refine lv_bipush (v := (-2)) hx hb dX12_join_179 (by decide) ?_
                exact W.iret (v := (-2)) hx hb hr (fun t ht hW => ⟨(-2), rfl, rfl, ht⟩) (fun _ h => by cases h) dX12_join_181
              · refine lv_iload_n hx hb dX12_join_131 rfl (lv_at hl 5 rfl) ?_
                refine lv_iload hx hb dX12_join_132 (lv_at hl 7 rfl) ?_
                refine lv_icmp_eq (tgt := 147) hx hb dX12_join_134 (by decide) (fun c_118 => ?_) (fun c_118 => ?_)
                · refine lv_iconst (v := 1) hx hb dX12_join_147 (by decide) ?_
                  refine lv_goto (tgt := 152) hx hb dX12_join_148 (by decide) ?_
                  refine lv_istore (lv' := [(8, .int 1), (7, .int 0), (6, .int 0), (5, .int 0), (0, .ref h0), (1, .int p0), (2, .int p1), (3, .int p2), (4, .int p3)]) hx hb dX12_join_152 hl (by decide) rfl (fun ls hl => ?_)
                  refine lv_iload hx hb dX12_join_154 (lv_at hl 1 rfl) ?_
                  refine lv_if_eq (tgt := 179) hx hb dX12_join_156 (by decide) (fun _ => ?_) (fun c_119 => absurd (by decide) c_119)
                  refine lv_bipush (v := (-2)) hx hb dX12_join_179 (by decide) ?_
                  exact W.iret (v := (-2)) hx hb hr (fun t ht hW => ⟨(-2), rfl, rfl, ht⟩) (fun _ h => by cases h) dX12_join_181
                · refine lv_iload_n hx hb dX12_join_137 rfl (lv_at hl 6 rfl) ?_
                  refine lv_if_lt (tgt := 151) hx hb dX12_join_138 (by decide) (fun c_120 => ?_) (fun c_120 => ?_)
                  · refine lv_iconst (v := 0) hx hb dX12_join_151 (by decide) ?_
                    refine lv_istore (lv' := [(8, .int 0), (7, .int 0), (6, .int 0), (5, .int 0), (0, .ref h0), (1, .int p0), (2, .int p1), (3, .int p2), (4, .int p3)]) hx hb dX12_join_152 hl (by decide) rfl (fun ls hl => ?_)
                    refine lv_iload hx hb dX12_join_154 (lv_at hl 1 rfl) ?_
                    refine lv_if_eq (tgt := 179) hx hb dX12_join_156 (by decide) (fun _ => ?_) (fun c_121 => absurd (by decide) c_121)
                    refine lv_bipush (v := (-2)) hx hb dX12_join_179 (by decide) ?_
                    exact W.iret (v := (-2)) hx hb hr (fun t ht hW => ⟨(-2), rfl, rfl, ht⟩) (fun _ h => by cases h) dX12_join_181
                  · refine lv_iload_n hx hb dX12_join_141 rfl (lv_at hl 6 rfl) ?_
                    refine lv_iload hx hb dX12_join_142 (lv_at hl 7 rfl) ?_
                    refine lv_icmp_ne (tgt := 151) hx hb dX12_join_144 (by decide) (fun c_122 => ?_) (fun c_122 => ?_)
                    · refine lv_iconst (v := 0) hx hb dX12_join_151 (by decide) ?_
                      refine lv_istore (lv' := [(8, .int 0), (7, .int 0), (6, .int 0), (5, .int 0), (0, .ref h0), (1, .int p0), (2, .int p1), (3, .int p2), (4, .int p3)]) hx hb dX12_join_152 hl (by decide) rfl (fun ls hl => ?_)
                      refine lv_iload hx hb dX12_join_154 (lv_at hl 1 rfl) ?_
                      refine lv_if_eq (tgt := 179) hx hb dX12_join_156 (by decide) (fun _ => ?_) (fun c_123 => absurd (by decide) c_123)
                      refine lv_bipush (v := (-2)) hx hb dX12_join_179 (by decide) ?_
                      exact W.iret (v := (-2)) hx hb hr (fun t ht hW => ⟨(-2), rfl, rfl, ht⟩) (fun _ h => by cases h) dX12_join_181
                    · refine lv_iconst (v := 1) hx hb dX12_join_147 (by decide) ?_
                      refine lv_goto (tgt := 152) hx hb dX12_join_148 (by decide) ?_
                      refine lv_istore (lv' := [(8, .int 1), (7, .int 0), (6, .int 0), (5, .int 0), (0, .ref h0), (1, .int p0), (2, .int p1), (3, .int p2), (4, .int p3)]) hx hb dX12_join_152 hl (by decide) rfl (fun ls hl => ?_)
                      refine lv_iload hx hb dX12_join_154 (lv_at hl 1 rfl) ?_
                      refine lv_if_eq (tgt := 179) hx hb dX12_join_156 (by decide) (fun _ => ?_) (fun c_124 => absurd (by decide) c_124)
                      refine lv_bipush (v := (-2)) hx hb dX12_join_179 (by decide) ?_
                      exact W.iret (v := (-2)) hx hb hr (fun t ht hW => ⟨(-2), rfl, rfl, ht⟩) (fun _ h => by cases h) dX12_join_181
        · obtain rfl : p2 = (-1) := c_84
          refine lv_iconst (v := 1) hx hb dX12_join_32 (by decide) ?_
          refine lv_goto (tgt := 37) hx hb dX12_join_33 (by decide) ?_
          refine lv_iadd hx hb dX12_join_37 ?_
          refine lv_topi (fun f_125 ef_125 => ?_)
          obtain rfl : (1 : Int32) = f_125 := (ef_125.trans (by decide)).symm
          refine lv_iload_n hx hb dX12_join_38 rfl (lv_at hl 2 rfl) ?_
          refine lv_iconst (v := 4) hx hb dX12_join_39 (by decide) ?_
          refine lv_icmp_ne (tgt := 53) hx hb dX12_join_40 (by decide) (fun _ => ?_) (fun c_126 => absurd c_126 c_82)
          refine lv_iconst (v := 0) hx hb dX12_join_53 (by decide) ?_
          refine lv_iadd hx hb dX12_join_54 ?_
          refine lv_topi (fun f_127 ef_127 => ?_)
          obtain rfl : (1 : Int32) = f_127 := (ef_127.trans (by decide)).symm
          refine lv_istore (lv' := [(6, .int 1), (5, .int 0), (0, .ref h0), (1, .int p0), (2, .int p1), (3, .int (-1)), (4, .int p3)]) hx hb dX12_join_55 hl (by decide) rfl (fun ls hl => ?_)
          refine lv_iload_n hx hb dX12_join_57 rfl (lv_at hl 3 rfl) ?_
          refine lv_i2l hx hb dX12_join_58 rfl ?_
          refine lv_lconst (v := 1) hx hb dX12_join_59 (by decide) ?_
          refine lv_ldc2 (v := 4) hx hb hown (hts (.constantLong RX12 472 (4)) (List.mem_of_getElem? (i := 1) rfl)) dX12_join_60 ?_
          refine vp_callSi (va_Run.run (va_runS (As := [.long p0.toInt64, .long 1, .long 4]) (rest := []) ⟨hx, hb, hml, hown, hts⟩ (c_X12_in l p0.toInt64 1 4) (va_cwS 3 hts gq_X12_join_X12_in_372 rfl rfl rfl (by decide +kernel) ⟨Nat.le_of_ble_eq_true rfl, Nat.le_of_ble_eq_true rfl⟩) ⟨fun a U g mk q => q, fun U hU hW => ⟨rfl, trivial⟩⟩ rfl rfl hl.1 rfl (lv_room (Nat.le_of_ble_eq_true rfl)) dX12_join_63 ⟨Nat.le_of_ble_eq_true rfl, Nat.le_of_ble_eq_true rfl⟩)) (fun r_128 hr_128 => ?_)
          rcases hr_128 with ⟨rfl, hlo_129, hhi_129⟩ | ⟨rfl, hno_129⟩
          · refine lv_if_eq (tgt := 119) hx hb dX12_join_66 (by decide) (fun c_130 => absurd c_130 (by decide)) (fun _ => ?_)
            refine lv_iload_n hx hb dX12_join_69 rfl (lv_at hl 4 rfl) ?_
            refine lv_iconst (v := (-1)) hx hb dX12_join_70 (by decide) ?_
            refine lv_icmp_eq (tgt := 82) hx hb dX12_join_71 (by decide) (fun c_131 => absurd c_131 c_83) (fun _ => ?_)
            refine lv_aload_n hx hb dX12_join_74 rfl (lv_at hl 2 rfl) ?_
            refine lv_iload_n hx hb dX12_join_75 rfl (lv_at hl 4 rfl) ?_
            have hPc := hP.sub (ws' := [(h0, .inr (12, (fsM g)))]) [0] rfl
            have hDc := hD.sub (ws' := [(h0, .inr (12, (fsM g)))]) [0] (by decide) rfl
            have hKc := hK
            refine vp_callSi (va_Run.run (va_runV (As := [.int p1]) (rest := []) ⟨hx, hb, hml, hown, hts⟩ (c_X12_isVolume l dC dI cI cB cZ cJ cC cP cV cT cO s.heap.size h0 g p1) (cwV 1 hts gq_X12_join_X12_isVolume_474 rfl rfl rfl (by decide +kernel) ⟨Nat.le_of_ble_eq_true rfl, Nat.le_of_ble_eq_true rfl⟩) ⟨fun a U g mk q => by obtain ⟨q0, q1, qP, qK, qD⟩ := q; exact ⟨q0, q1, qP, va_K.moved (u := U) (U := U.calling g mk a) (Vm.Alike.refl U.vm) qK, qD⟩, va_recv hKc hPc (ci := 12) (q0 := 0) rfl rfl, fun U hU hW => ⟨rfl, by rw [hU], by rw [hU]; exact hPc, va_K.moved hW.alike hKc, hDc.weaken (fun _ _ _ _ => trivial)⟩⟩ rfl rfl hl.1 rfl (lv_room (Nat.le_of_ble_eq_true rfl)) dX12_join_76 ⟨Nat.le_of_ble_eq_true rfl, Nat.le_of_ble_eq_true rfl⟩)) (fun r_132 hr_132 => ?_)
            obtain rfl : r_132 = 0 := hr_132
            refine lv_if_eq (tgt := 119) hx hb dX12_join_79 (by decide) (fun _ => ?_) (fun c_133 => absurd (by decide) c_133)
            refine lv_iconst (v := 0) hx hb dX12_join_119 (by decide) ?_
            refine lv_istore (lv' := [(7, .int 0), (6, .int 1), (5, .int 0), (0, .ref h0), (1, .int p0), (2, .int p1), (3, .int (-1)), (4, .int p3)]) hx hb dX12_join_120 hl (by decide) rfl (fun ls hl => ?_)
            refine lv_iload_n hx hb dX12_join_122 rfl (lv_at hl 5 rfl) ?_
            refine lv_if_lt (tgt := 137) hx hb dX12_join_123 (by decide) (fun c_134 => ?_) (fun c_134 => ?_)
            · refine lv_iload_n hx hb dX12_join_137 rfl (lv_at hl 6 rfl) ?_
              refine lv_if_lt (tgt := 151) hx hb dX12_join_138 (by decide) (fun _ => ?_) (fun c_135 => absurd (by decide) c_135)
              refine lv_iconst (v := 0) hx hb dX12_join_151 (by decide) ?_
              refine lv_istore (lv' := [(8, .int 0), (7, .int 0), (6, .int 1), (5, .int 0), (0, .ref h0), (1, .int p0), (2, .int p1), (3, .int (-1)), (4, .int p3)]) hx hb dX12_join_152 hl (by decide) rfl (fun ls hl => ?_)
              refine lv_iload hx hb dX12_join_154 (lv_at hl 1 rfl) ?_
              refine lv_if_eq (tgt := 179) hx hb dX12_join_156 (by decide) (fun _ => ?_) (fun c_136 => absurd (by decide) c_136)
              refine lv_bipush (v := (-2)) hx hb dX12_join_179 (by decide) ?_
              exact W.iret (v := (-2)) hx hb hr (fun t ht hW => ⟨(-2), rfl, rfl, ht⟩) (fun _ h => by cases h) dX12_join_181
            · refine lv_iload_n hx hb dX12_join_126 rfl (lv_at hl 5 rfl) ?_
              refine lv_iload_n hx hb dX12_join_127 rfl (lv_at hl 6 rfl) ?_
              refine lv_icmp_eq (tgt := 147) hx hb dX12_join_128 (by decide) (fun c_137 => absurd c_137 c_83) (fun _ => ?_)
              refine lv_iload_n hx hb dX12_join_131 rfl (lv_at hl 5 rfl) ?_
              refine lv_iload hx hb dX12_join_132 (lv_at hl 7 rfl) ?_
              refine lv_icmp_eq (tgt := 147) hx hb dX12_join_134 (by decide) (fun c_138 => ?_) (fun c_138 => ?_)
              · refine lv_iconst (v := 1) hx hb dX12_join_147 (by decide) ?_
                refine lv_goto (tgt := 152) hx hb dX12_join_148 (by decide) ?_
                refine lv_istore (lv' := [(8, .int 1), (7, .int 0), (6, .int 1), (5, .int 0), (0, .ref h0), (1, .int p0), (2, .int p1), (3, .int (-1)), (4, .int p3)]) hx hb dX12_join_152 hl (by decide) rfl (fun ls hl => ?_)
                refine lv_iload hx hb dX12_join_154 (lv_at hl 1 rfl) ?_
                refine lv_if_eq (tgt := 179) hx hb dX12_join_156 (by decide) (fun _ => ?_) (fun c_139 => absurd (by decide) c_139)
                refine lv_bipush (v := (-2)) hx hb dX12_join_179 (by decide) ?_
                exact W.iret (v := (-2)) hx hb hr (fun t ht hW => ⟨(-2), rfl, rfl, ht⟩) (fun _ h => by cases h) dX12_join_181
              · refine lv_iload_n hx hb dX12_join_137 rfl (lv_at hl 6 rfl) ?_
                refine lv_if_lt (tgt := 151) hx hb dX12_join_138 (by decide) (fun _ => ?_) (fun c_140 => absurd (by decide) c_140)
                refine lv_iconst (v := 0) hx hb dX12_join_151 (by decide) ?_
                refine lv_istore (lv' := [(8, .int 0), (7, .int 0), (6, .int 1), (5, .int 0), (0, .ref h0), (1, .int p0), (2, .int p1), (3, .int (-1)), (4, .int p3)]) hx hb dX12_join_152 hl (by decide) rfl (fun ls hl => ?_)
                refine lv_iload hx hb dX12_join_154 (lv_at hl 1 rfl) ?_
                refine lv_if_eq (tgt := 179) hx hb dX12_join_156 (by decide) (fun _ => ?_) (fun c_141 => absurd (by decide) c_141)
                refine lv_bipush (v := (-2)) hx hb dX12_join_179 (by decide) ?_
                exact W.iret (v := (-2)) hx hb hr (fun t ht hW => ⟨(-2), rfl, rfl, ht⟩) (fun _ h => by cases h) dX12_join_181
          · refine lv_if_eq (tgt := 119) hx hb dX12_join_66 (by decide) (fun _ => ?_) (fun c_142 => absurd (by decide) c_142)
            refine lv_iconst (v := 0) hx hb dX12_join_119 (by decide) ?_
            refine lv_istore (lv' := [(7, .int 0), (6, .int 1), (5, .int 0), (0, .ref h0), (1, .int p0), (2, .int p1), (3, .int (-1)), (4, .int p3)]) hx hb dX12_join_120 hl (by decide) rfl (fun ls hl => ?_)
            refine lv_iload_n hx hb dX12_join_122 rfl (lv_at hl 5 rfl) ?_
            refine lv_if_lt (tgt := 137) hx hb dX12_join_123 (by decide) (fun c_143 => ?_) (fun c_143 => ?_)
            · refine lv_iload_n hx hb dX12_join_137 rfl (lv_at hl 6 rfl) ?_
              refine lv_if_lt (tgt := 151) hx hb dX12_join_138 (by decide) (fun _ => ?_) (fun c_144 => absurd (by decide) c_144)
              refine lv_iconst (v := 0) hx hb dX12_join_151 (by decide) ?_
              refine lv_istore (lv' := [(8, .int 0), (7, .int 0), (6, .int 1), (5, .int 0), (0, .ref h0), (1, .int p0), (2, .int p1), (3, .int (-1)), (4, .int p3)]) hx hb dX12_join_152 hl (by decide) rfl (fun ls hl => ?_)
              refine lv_iload hx hb dX12_join_154 (lv_at hl 1 rfl) ?_
              refine lv_if_eq (tgt := 179) hx hb dX12_join_156 (by decide) (fun _ => ?_) (fun c_145 => absurd (by decide) c_145)
              refine lv_bipush (v := (-2)) hx hb dX12_join_179 (by decide) ?_
              exact W.iret (v := (-2)) hx hb hr (fun t ht hW => ⟨(-2), rfl, rfl, ht⟩) (fun _ h => by cases h) dX12_join_181
            · refine lv_iload_n hx hb dX12_join_126 rfl (lv_at hl 5 rfl) ?_
              refine lv_iload_n hx hb dX12_join_127 rfl (lv_at hl 6 rfl) ?_
              refine lv_icmp_eq (tgt := 147) hx hb dX12_join_128 (by decide) (fun c_146 => absurd c_146 c_83) (fun _ => ?_)
              refine lv_iload_n hx hb dX12_join_131 rfl (lv_at hl 5 rfl) ?_
              refine lv_iload hx hb dX12_join_132 (lv_at hl 7 rfl) ?_
              refine lv_icmp_eq (tgt := 147) hx hb dX12_join_134 (by decide) (fun c_147 => ?_) (fun c_147 => ?_)
              · refine lv_iconst (v := 1) hx hb dX12_join_147 (by decide) ?_
                refine lv_goto (tgt := 152) hx hb dX12_join_148 (by decide) ?_
                refine lv_istore (lv' := [(8, .int 1), (7, .int 0), (6, .int 1), (5, .int 0), (0, .ref h0), (1, .int p0), (2, .int p1), (3, .int (-1)), (4, .int p3)]) hx hb dX12_join_152 hl (by decide) rfl (fun ls hl => ?_)
                refine lv_iload hx hb dX12_join_154 (lv_at hl 1 rfl) ?_
                refine lv_if_eq (tgt := 179) hx hb dX12_join_156 (by decide) (fun _ => ?_) (fun c_148 => absurd (by decide) c_148)
                refine lv_bipush (v := (-2)) hx hb dX12_join_179 (by decide) ?_
                exact W.iret (v := (-2)) hx hb hr (fun t ht hW => ⟨(-2), rfl, rfl, ht⟩) (fun _ h => by cases h) dX12_join_181
              · refine lv_iload_n hx hb dX12_join_137 rfl (lv_at hl 6 rfl) ?_
                refine lv_if_lt (tgt := 151) hx hb dX12_join_138 (by decide) (fun _ => ?_) (fun c_149 => absurd (by decide) c_149)
                refine lv_iconst (v := 0) hx hb dX12_join_151 (by decide) ?_
                refine lv_istore (lv' := [(8, .int 0), (7, .int 0), (6, .int 1), (5, .int 0), (0, .ref h0), (1, .int p0), (2, .int p1), (3, .int (-1)), (4, .int p3)]) hx hb dX12_join_152 hl (by decide) rfl (fun ls hl => ?_)
                refine lv_iload hx hb dX12_join_154 (lv_at hl 1 rfl) ?_
                refine lv_if_eq (tgt := 179) hx hb dX12_join_156 (by decide) (fun _ => ?_) (fun c_150 => absurd (by decide) c_150)
                refine lv_bipush (v := (-2)) hx hb dX12_join_179 (by decide) ?_
                exact W.iret (v := (-2)) hx hb hr (fun t ht hW => ⟨(-2), rfl, rfl, ht⟩) (fun _ h => by cases h) dX12_join_181
      · obtain rfl : p1 = (-1) := c_83
        refine lv_iconst (v := 1) hx hb dX12_join_22 (by decide) ?_
        refine lv_goto (tgt := 27) hx hb dX12_join_23 (by decide) ?_
        refine lv_iload_n hx hb dX12_join_27 rfl (lv_at hl 4 rfl) ?_
        refine lv_iconst (v := (-1)) hx hb dX12_join_28 (by decide) ?_
        refine lv_icmp_ne (tgt := 36) hx hb dX12_join_29 (by decide) (fun c_151 => ?_) (fun c_151 => ?_)
        · refine lv_iconst (v := 0) hx hb dX12_join_36 (by decide) ?_
          refine lv_iadd hx hb dX12_join_37 ?_
          refine lv_topi (fun f_152 ef_152 => ?_)
          obtain rfl : (1 : Int32) = f_152 := (ef_152.trans (by decide)).symm
          refine lv_iload_n hx hb dX12_join_38 rfl (lv_at hl 2 rfl) ?_
          refine lv_iconst (v := 4) hx hb dX12_join_39 (by decide) ?_
          refine lv_icmp_ne (tgt := 53) hx hb dX12_join_40 (by decide) (fun _ => ?_) (fun c_153 => absurd c_153 c_82)
          refine lv_iconst (v := 0) hx hb dX12_join_53 (by decide) ?_
          refine lv_iadd hx hb dX12_join_54 ?_
          refine lv_topi (fun f_154 ef_154 => ?_)
          obtain rfl : (1 : Int32) = f_154 := (ef_154.trans (by decide)).symm
          refine lv_istore (lv' := [(6, .int 1), (5, .int 0), (0, .ref h0), (1, .int p0), (2, .int (-1)), (3, .int p2), (4, .int p3)]) hx hb dX12_join_55 hl (by decide) rfl (fun ls hl => ?_)
          refine lv_iload_n hx hb dX12_join_57 rfl (lv_at hl 3 rfl) ?_
          refine lv_i2l hx hb dX12_join_58 rfl ?_
          refine lv_lconst (v := 1) hx hb dX12_join_59 (by decide) ?_
          refine lv_ldc2 (v := 4) hx hb hown (hts (.constantLong RX12 472 (4)) (List.mem_of_getElem? (i := 1) rfl)) dX12_join_60 ?_
          refine vp_callSi (va_Run.run (va_runS (As := [.long p0.toInt64, .long 1, .long 4]) (rest := []) ⟨hx, hb, hml, hown, hts⟩ (c_X12_in l p0.toInt64 1 4) (va_cwS 3 hts gq_X12_join_X12_in_372 rfl rfl rfl (by decide +kernel) ⟨Nat.le_of_ble_eq_true rfl, Nat.le_of_ble_eq_true rfl⟩) ⟨fun a U g mk q => q, fun U hU hW => ⟨rfl, trivial⟩⟩ rfl rfl hl.1 rfl (lv_room (Nat.le_of_ble_eq_true rfl)) dX12_join_63 ⟨Nat.le_of_ble_eq_true rfl, Nat.le_of_ble_eq_true rfl⟩)) (fun r_155 hr_155 => ?_)
          rcases hr_155 with ⟨rfl, hlo_156, hhi_156⟩ | ⟨rfl, hno_156⟩
          · refine lv_if_eq (tgt := 119) hx hb dX12_join_66 (by decide) (fun c_157 => absurd c_157 (by decide)) (fun _ => ?_)
            refine lv_iload_n hx hb dX12_join_69 rfl (lv_at hl 4 rfl) ?_
            refine lv_iconst (v := (-1)) hx hb dX12_join_70 (by decide) ?_
            refine lv_icmp_eq (tgt := 82) hx hb dX12_join_71 (by decide) (fun _ => ?_) (fun c_158 => absurd (by decide) c_158)
            refine lv_iload_n hx hb dX12_join_82 rfl (lv_at hl 5 rfl) ?_
            refine lv_iconst (v := (-1)) hx hb dX12_join_83 (by decide) ?_
            refine lv_icmp_eq (tgt := 95) hx hb dX12_join_84 (by decide) (fun c_159 => absurd c_159 c_151) (fun _ => ?_)
            refine lv_aload_n hx hb dX12_join_87 rfl (lv_at hl 2 rfl) ?_
            refine lv_iload_n hx hb dX12_join_88 rfl (lv_at hl 5 rfl) ?_
            have hPc := hP.sub (ws' := [(h0, .inr (12, (fsM g)))]) [0] rfl
            have hDc := hD.sub (ws' := [(h0, .inr (12, (fsM g)))]) [0] (by decide) rfl
            have hKc := hK
            refine vp_callSi (va_Run.run (va_runV (As := [.int p2]) (rest := []) ⟨hx, hb, hml, hown, hts⟩ (c_X12_isVolume l dC dI cI cB cZ cJ cC cP cV cT cO s.heap.size h0 g p2) (cwV 1 hts gq_X12_join_X12_isVolume_474 rfl rfl rfl (by decide +kernel) ⟨Nat.le_of_ble_eq_true rfl, Nat.le_of_ble_eq_true rfl⟩) ⟨fun a U g mk q => by obtain ⟨q0, q1, qP, qK, qD⟩ := q; exact ⟨q0, q1, qP, va_K.moved (u := U) (U := U.calling g mk a) (Vm.Alike.refl U.vm) qK, qD⟩, va_recv hKc hPc (ci := 12) (q0 := 0) rfl rfl, fun U hU hW => ⟨rfl, by rw [hU], by rw [hU]; exact hPc, va_K.moved hW.alike hKc, hDc.weaken (fun _ _ _ _ => trivial)⟩⟩ rfl rfl hl.1 rfl (lv_room (Nat.le_of_ble_eq_true rfl)) dX12_join_89 ⟨Nat.le_of_ble_eq_true rfl, Nat.le_of_ble_eq_true rfl⟩)) (fun r_160 hr_160 => ?_)
            obtain rfl : r_160 = 0 := hr_160
            refine lv_if_eq (tgt := 119) hx hb dX12_join_92 (by decide) (fun _ => ?_) (fun c_161 => absurd (by decide) c_161)
            refine lv_iconst (v := 0) hx hb dX12_join_119 (by decide) ?_
            refine lv_istore (lv' := [(7, .int 0), (6, .int 1), (5, .int 0), (0, .ref h0), (1, .int p0), (2, .int (-1)), (3, .int p2), (4, .int p3)]) hx hb dX12_join_120 hl (by decide) rfl (fun ls hl => ?_)
            refine lv_iload_n hx hb dX12_join_122 rfl (lv_at hl 5 rfl) ?_
            refine lv_if_lt (tgt := 137) hx hb dX12_join_123 (by decide) (fun _ => ?_) (fun c_162 => absurd (by decide) c_162)
            refine lv_iload_n hx hb dX12_join_137 rfl (lv_at hl 6 rfl) ?_
            refine lv_if_lt (tgt := 151) hx hb dX12_join_138 (by decide) (fun c_163 => ?_) (fun c_163 => ?_)
            · refine lv_iconst (v := 0) hx hb dX12_join_151 (by decide) ?_
              refine lv_istore (lv' := [(8, .int 0), (7, .int 0), (6, .int 1), (5, .int 0), (0, .ref h0), (1, .int p0), (2, .int (-1)), (3, .int p2), (4, .int p3)]) hx hb dX12_join_152 hl (by decide) rfl (fun ls hl => ?_)
              refine lv_iload hx hb dX12_join_154 (lv_at hl 1 rfl) ?_
              refine lv_if_eq (tgt := 179) hx hb dX12_join_156 (by decide) (fun _ => ?_) (fun c_164 => absurd (by decide) c_164)
              refine lv_bipush (v := (-2)) hx hb dX12_join_179 (by decide) ?_
              exact W.iret (v := (-2)) hx hb hr (fun t ht hW => ⟨(-2), rfl, rfl, ht⟩) (fun _ h => by cases h) dX12_join_181
            · refine lv_iload_n hx hb dX12_join_141 rfl (lv_at hl 6 rfl) ?_
              refine lv_iload hx hb dX12_join_142 (lv_at hl 7 rfl) ?_
              refine lv_icmp_ne (tgt := 151) hx hb dX12_join_144 (by decide) (fun c_165 => ?_) (fun c_165 => ?_)
              · refine lv_iconst (v := 0) hx hb dX12_join_151 (by decide) ?_
                refine lv_istore (lv' := [(8, .int 0), (7, .int 0), (6, .int 1), (5, .int 0), (0, .ref h0), (1, .int p0), (2, .int (-1)), (3, .int p2), (4, .int p3)]) hx hb dX12_join_152 hl (by decide) rfl (fun ls hl => ?_)
                refine lv_iload hx hb dX12_join_154 (lv_at hl 1 rfl) ?_
                refine lv_if_eq (tgt := 179) hx hb dX12_join_156 (by decide) (fun _ => ?_) (fun c_166 => absurd (by decide) c_166)
                refine lv_bipush (v := (-2)) hx hb dX12_join_179 (by decide) ?_
                exact W.iret (v := (-2)) hx hb hr (fun t ht hW => ⟨(-2), rfl, rfl, ht⟩) (fun _ h => by cases h) dX12_join_181
              · refine lv_iconst (v := 1) hx hb dX12_join_147 (by decide) ?_
                refine lv_goto (tgt := 152) hx hb dX12_join_148 (by decide) ?_
                refine lv_istore (lv' := [(8, .int 1), (7, .int 0), (6, .int 1), (5, .int 0), (0, .ref h0), (1, .int p0), (2, .int (-1)), (3, .int p2), (4, .int p3)]) hx hb dX12_join_152 hl (by decide) rfl (fun ls hl => ?_)
                refine lv_iload hx hb dX12_join_154 (lv_at hl 1 rfl) ?_
                refine lv_if_eq (tgt := 179) hx hb dX12_join_156 (by decide) (fun _ => ?_) (fun c_167 => absurd (by decide) c_167)
                refine lv_bipush (v := (-2)) hx hb dX12_join_179 (by decide) ?_
                exact W.iret (v := (-2)) hx hb hr (fun t ht hW => ⟨(-2), rfl, rfl, ht⟩) (fun _ h => by cases h) dX12_join_181
          · refine lv_if_eq (tgt := 119) hx hb dX12_join_66 (by decide) (fun _ => ?_) (fun c_168 => absurd (by decide) c_168)
            refine lv_iconst (v := 0) hx hb dX12_join_119 (by decide) ?_
            refine lv_istore (lv' := [(7, .int 0), (6, .int 1), (5, .int 0), (0, .ref h0), (1, .int p0), (2, .int (-1)), (3, .int p2), (4, .int p3)]) hx hb dX12_join_120 hl (by decide) rfl (fun ls hl => ?_)
            refine lv_iload_n hx hb dX12_join_122 rfl (lv_at hl 5 rfl) ?_
            refine lv_if_lt (tgt := 137) hx hb dX12_join_123 (by decide) (fun _ => ?_) (fun c_169 => absurd (by decide) c_169)
            refine lv_iload_n hx hb dX12_join_137 rfl (lv_at hl 6 rfl) ?_
            refine lv_if_lt (tgt := 151) hx hb dX12_join_138 (by decide) (fun c_170 => ?_) (fun c_170 => ?_)
            · refine lv_iconst (v := 0) hx hb dX12_join_151 (by decide) ?_
              refine lv_istore (lv' := [(8, .int 0), (7, .int 0), (6, .int 1), (5, .int 0), (0, .ref h0), (1, .int p0), (2, .int (-1)), (3, .int p2), (4, .int p3)]) hx hb dX12_join_152 hl (by decide) rfl (fun ls hl => ?_)
              refine lv_iload hx hb dX12_join_154 (lv_at hl 1 rfl) ?_
              refine lv_if_eq (tgt := 179) hx hb dX12_join_156 (by decide) (fun _ => ?_) (fun c_171 => absurd (by decide) c_171)
              refine lv_bipush (v := (-2)) hx hb dX12_join_179 (by decide) ?_
              exact W.iret (v := (-2)) hx hb hr (fun t ht hW => ⟨(-2), rfl, rfl, ht⟩) (fun _ h => by cases h) dX12_join_181
            · refine lv_iload_n hx hb dX12_join_141 rfl (lv_at hl 6 rfl) ?_
              refine lv_iload hx hb dX12_join_142 (lv_at hl 7 rfl) ?_
              refine lv_icmp_ne (tgt := 151) hx hb dX12_join_144 (by decide) (fun c_172 => ?_) (fun c_172 => ?_)
              · refine lv_iconst (v := 0) hx hb dX12_join_151 (by decide) ?_
                refine lv_istore (lv' := [(8, .int 0), (7, .int 0), (6, .int 1), (5, .int 0), (0, .ref h0), (1, .int p0), (2, .int (-1)), (3, .int p2), (4, .int p3)]) hx hb dX12_join_152 hl (by decide) rfl (fun ls hl => ?_)
                refine lv_iload hx hb dX12_join_154 (lv_at hl 1 rfl) ?_
                refine lv_if_eq (tgt := 179) hx hb dX12_join_156 (by decide) (fun _ => ?_) (fun c_173 => absurd (by decide) c_173)
                refine lv_bipush (v := (-2)) hx hb dX12_join_179 (by decide) ?_
                exact W.iret (v := (-2)) hx hb hr (fun t ht hW => ⟨(-2), rfl, rfl, ht⟩) (fun _ h => by cases h) dX12_join_181
              · refine lv_iconst (v := 1) hx hb dX12_join_147 (by decide) ?_
                refine lv_goto (tgt := 152) hx hb dX12_join_148 (by decide) ?_
                refine lv_istore (lv' := [(8, .int 1), (7, .int 0), (6, .int 1), (5, .int 0), (0, .ref h0), (1, .int p0), (2, .int (-1)), (3, .int p2), (4, .int p3)]) hx hb dX12_join_152 hl (by decide) rfl (fun ls hl => ?_)
                refine lv_iload hx hb dX12_join_154 (lv_at hl 1 rfl) ?_
                refine lv_if_eq (tgt := 179) hx hb dX12_join_156 (by decide) (fun _ => ?_) (fun c_174 => absurd (by decide) c_174)
                refine lv_bipush (v := (-2)) hx hb dX12_join_179 (by decide) ?_
                exact W.iret (v := (-2)) hx hb hr (fun t ht hW => ⟨(-2), rfl, rfl, ht⟩) (fun _ h => by cases h) dX12_join_181
        · obtain rfl : p2 = (-1) := c_151
          refine lv_iconst (v := 1) hx hb dX12_join_32 (by decide) ?_
          refine lv_goto (tgt := 37) hx hb dX12_join_33 (by decide) ?_
          refine lv_iadd hx hb dX12_join_37 ?_
          refine lv_topi (fun f_175 ef_175 => ?_)
          obtain rfl : (2 : Int32) = f_175 := (ef_175.trans (by decide)).symm
          refine lv_iload_n hx hb dX12_join_38 rfl (lv_at hl 2 rfl) ?_
          refine lv_iconst (v := 4) hx hb dX12_join_39 (by decide) ?_
          refine lv_icmp_ne (tgt := 53) hx hb dX12_join_40 (by decide) (fun _ => ?_) (fun c_176 => absurd c_176 c_82)
          refine lv_iconst (v := 0) hx hb dX12_join_53 (by decide) ?_
          refine lv_iadd hx hb dX12_join_54 ?_
          refine lv_topi (fun f_177 ef_177 => ?_)
          obtain rfl : (2 : Int32) = f_177 := (ef_177.trans (by decide)).symm
          refine lv_istore (lv' := [(6, .int 2), (5, .int 0), (0, .ref h0), (1, .int p0), (2, .int (-1)), (3, .int (-1)), (4, .int p3)]) hx hb dX12_join_55 hl (by decide) rfl (fun ls hl => ?_)
          refine lv_iload_n hx hb dX12_join_57 rfl (lv_at hl 3 rfl) ?_
          refine lv_i2l hx hb dX12_join_58 rfl ?_
          refine lv_lconst (v := 1) hx hb dX12_join_59 (by decide) ?_
          refine lv_ldc2 (v := 4) hx hb hown (hts (.constantLong RX12 472 (4)) (List.mem_of_getElem? (i := 1) rfl)) dX12_join_60 ?_
          refine vp_callSi (va_Run.run (va_runS (As := [.long p0.toInt64, .long 1, .long 4]) (rest := []) ⟨hx, hb, hml, hown, hts⟩ (c_X12_in l p0.toInt64 1 4) (va_cwS 3 hts gq_X12_join_X12_in_372 rfl rfl rfl (by decide +kernel) ⟨Nat.le_of_ble_eq_true rfl, Nat.le_of_ble_eq_true rfl⟩) ⟨fun a U g mk q => q, fun U hU hW => ⟨rfl, trivial⟩⟩ rfl rfl hl.1 rfl (lv_room (Nat.le_of_ble_eq_true rfl)) dX12_join_63 ⟨Nat.le_of_ble_eq_true rfl, Nat.le_of_ble_eq_true rfl⟩)) (fun r_178 hr_178 => ?_)
          rcases hr_178 with ⟨rfl, hlo_179, hhi_179⟩ | ⟨rfl, hno_179⟩
          · refine lv_if_eq (tgt := 119) hx hb dX12_join_66 (by decide) (fun c_180 => absurd c_180 (by decide)) (fun _ => ?_)
            refine lv_iload_n hx hb dX12_join_69 rfl (lv_at hl 4 rfl) ?_
            refine lv_iconst (v := (-1)) hx hb dX12_join_70 (by decide) ?_
            refine lv_icmp_eq (tgt := 82) hx hb dX12_join_71 (by decide) (fun _ => ?_) (fun c_181 => absurd (by decide) c_181)
            refine lv_iload_n hx hb dX12_join_82 rfl (lv_at hl 5 rfl) ?_
            refine lv_iconst (v := (-1)) hx hb dX12_join_83 (by decide) ?_
            refine lv_icmp_eq (tgt := 95) hx hb dX12_join_84 (by decide) (fun _ => ?_) (fun c_182 => absurd (by decide) c_182)
            refine lv_iload hx hb dX12_join_95 (lv_at hl 6 rfl) ?_
            refine lv_iconst (v := (-1)) hx hb dX12_join_97 (by decide) ?_
            refine lv_icmp_eq (tgt := 115) hx hb dX12_join_98 (by decide) (fun c_183 => ?_) (fun c_183 => ?_)
            · obtain rfl : p3 = (-1) := c_183
              refine lv_iconst (v := 1) hx hb dX12_join_115 (by decide) ?_
              refine lv_goto (tgt := 120) hx hb dX12_join_116 (by decide) ?_
              refine lv_istore (lv' := [(7, .int 1), (6, .int 2), (5, .int 0), (0, .ref h0), (1, .int p0), (2, .int (-1)), (3, .int (-1)), (4, .int (-1))]) hx hb dX12_join_120 hl (by decide) rfl (fun ls hl => ?_)
              refine lv_iload_n hx hb dX12_join_122 rfl (lv_at hl 5 rfl) ?_
              refine lv_if_lt (tgt := 137) hx hb dX12_join_123 (by decide) (fun _ => ?_) (fun c_184 => absurd (by decide) c_184)
              refine lv_iload_n hx hb dX12_join_137 rfl (lv_at hl 6 rfl) ?_
              refine lv_if_lt (tgt := 151) hx hb dX12_join_138 (by decide) (fun _ => ?_) (fun c_185 => absurd (by decide) c_185)
              refine lv_iconst (v := 0) hx hb dX12_join_151 (by decide) ?_
              refine lv_istore (lv' := [(8, .int 0), (7, .int 1), (6, .int 2), (5, .int 0), (0, .ref h0), (1, .int p0), (2, .int (-1)), (3, .int (-1)), (4, .int (-1))]) hx hb dX12_join_152 hl (by decide) rfl (fun ls hl => ?_)
              refine lv_iload hx hb dX12_join_154 (lv_at hl 1 rfl) ?_
              refine lv_if_eq (tgt := 179) hx hb dX12_join_156 (by decide) (fun c_186 => absurd c_186 (by decide)) (fun _ => ?_)
              refine lv_iload hx hb dX12_join_159 (lv_at hl 0 rfl) ?_
              refine lv_if_ne (tgt := 179) hx hb dX12_join_161 (by decide) (fun c_187 => absurd (by decide) c_187) (fun _ => ?_)
              refine lv_iload hx hb dX12_join_164 (lv_at hl 2 rfl) ?_
              refine lv_iload hx hb dX12_join_166 (lv_at hl 3 rfl) ?_
              refine lv_if_eq (tgt := 175) hx hb dX12_join_168 (by decide) (fun _ => ?_) (fun c_188 => absurd (by decide) c_188)
              refine lv_iconst (v := 0) hx hb dX12_join_175 (by decide) ?_
              refine lv_icmp_le (tgt := 182) hx hb dX12_join_176 (by decide) (fun c_189 => absurd c_189 (by decide)) (fun _ => ?_)
              refine lv_bipush (v := (-2)) hx hb dX12_join_179 (by decide) ?_
              exact W.iret (v := (-2)) hx hb hr (fun t ht hW => ⟨(-2), rfl, rfl, ht⟩) (fun _ h => by cases h) dX12_join_181
            · refine lv_aload_n hx hb dX12_join_101 rfl (lv_at hl 2 rfl) ?_
              refine lv_iload hx hb dX12_join_102 (lv_at hl 6 rfl) ?_
              have hPc := hP.sub (ws' := [(h0, .inr (12, (fsM g)))]) [0] rfl
              have hDc := hD.sub (ws' := [(h0, .inr (12, (fsM g)))]) [0] (by decide) rfl
              have hKc := hK
              refine vp_callSi (va_Run.run (va_runV (As := [.int p3]) (rest := []) ⟨hx, hb, hml, hown, hts⟩ (c_X12_isVolume l dC dI cI cB cZ cJ cC cP cV cT cO s.heap.size h0 g p3) (cwV 1 hts gq_X12_join_X12_isVolume_474 rfl rfl rfl (by decide +kernel) ⟨Nat.le_of_ble_eq_true rfl, Nat.le_of_ble_eq_true rfl⟩) ⟨fun a U g mk q => by obtain ⟨q0, q1, qP, qK, qD⟩ := q; exact ⟨q0, q1, qP, va_K.moved (u := U) (U := U.calling g mk a) (Vm.Alike.refl U.vm) qK, qD⟩, va_recv hKc hPc (ci := 12) (q0 := 0) rfl rfl, fun U hU hW => ⟨rfl, by rw [hU], by rw [hU]; exact hPc, va_K.moved hW.alike hKc, hDc.weaken (fun _ _ _ _ => trivial)⟩⟩ rfl rfl hl.1 rfl (lv_room (Nat.le_of_ble_eq_true rfl)) dX12_join_104 ⟨Nat.le_of_ble_eq_true rfl, Nat.le_of_ble_eq_true rfl⟩)) (fun r_190 hr_190 => ?_)
              obtain rfl : r_190 = 0 := hr_190
              refine lv_if_eq (tgt := 119) hx hb dX12_join_107 (by decide) (fun _ => ?_) (fun c_191 => absurd (by decide) c_191)
              refine lv_iconst (v := 0) hx hb dX12_join_119 (by decide) ?_
              refine lv_istore (lv' := [(7, .int 0), (6, .int 2), (5, .int 0), (0, .ref h0), (1, .int p0), (2, .int (-1)), (3, .int (-1)), (4, .int p3)]) hx hb dX12_join_120 hl (by decide) rfl (fun ls hl => ?_)
              refine lv_iload_n hx hb dX12_join_122 rfl (lv_at hl 5 rfl) ?_
              refine lv_if_lt (tgt := 137) hx hb dX12_join_123 (by decide) (fun _ => ?_) (fun c_192 => absurd (by decide) c_192)
              refine lv_iload_n hx hb dX12_join_137 rfl (lv_at hl 6 rfl) ?_
              refine lv_if_lt (tgt := 151) hx hb dX12_join_138 (by decide) (fun _ => ?_) (fun c_193 => absurd (by decide) c_193)
              refine lv_iconst (v := 0) hx hb dX12_join_151 (by decide) ?_
              refine lv_istore (lv' := [(8, .int 0), (7, .int 0), (6, .int 2), (5, .int 0), (0, .ref h0), (1, .int p0), (2, .int (-1)), (3, .int (-1)), (4, .int p3)]) hx hb dX12_join_152 hl (by decide) rfl (fun ls hl => ?_)
              refine lv_iload hx hb dX12_join_154 (lv_at hl 1 rfl) ?_
              refine lv_if_eq (tgt := 179) hx hb dX12_join_156 (by decide) (fun _ => ?_) (fun c_194 => absurd (by decide) c_194)
              refine lv_bipush (v := (-2)) hx hb dX12_join_179 (by decide) ?_
              exact W.iret (v := (-2)) hx hb hr (fun t ht hW => ⟨(-2), rfl, rfl, ht⟩) (fun _ h => by cases h) dX12_join_181
          · refine lv_if_eq (tgt := 119) hx hb dX12_join_66 (by decide) (fun _ => ?_) (fun c_195 => absurd (by decide) c_195)
            refine lv_iconst (v := 0) hx hb dX12_join_119 (by decide) ?_
            refine lv_istore (lv' := [(7, .int 0), (6, .int 2), (5, .int 0), (0, .ref h0), (1, .int p0), (2, .int (-1)), (3, .int (-1)), (4, .int p3)]) hx hb dX12_join_120 hl (by decide) rfl (fun ls hl => ?_)
            refine lv_iload_n hx hb dX12_join_122 rfl (lv_at hl 5 rfl) ?_
            refine lv_if_lt (tgt := 137) hx hb dX12_join_123 (by decide) (fun _ => ?_) (fun c_196 => absurd (by decide) c_196)
            refine lv_iload_n hx hb dX12_join_137 rfl (lv_at hl 6 rfl) ?_
            refine lv_if_lt (tgt := 151) hx hb dX12_join_138 (by decide) (fun _ => ?_) (fun c_197 => absurd (by decide) c_197)
            refine lv_iconst (v := 0) hx hb dX12_join_151 (by decide) ?_
            refine lv_istore (lv' := [(8, .int 0), (7, .int 0), (6, .int 2), (5, .int 0), (0, .ref h0), (1, .int p0), (2, .int (-1)), (3, .int (-1)), (4, .int p3)]) hx hb dX12_join_152 hl (by decide) rfl (fun ls hl => ?_)
            refine lv_iload hx hb dX12_join_154 (lv_at hl 1 rfl) ?_
            refine lv_if_eq (tgt := 179) hx hb dX12_join_156 (by decide) (fun _ => ?_) (fun c_198 => absurd (by decide) c_198)
            refine lv_bipush (v := (-2)) hx hb dX12_join_179 (by decide) ?_
            exact W.iret (v := (-2)) hx hb hr (fun t ht hW => ⟨(-2), rfl, rfl, ht⟩) (fun _ h => by cases h) dX12_join_181
    · obtain rfl : p0 = 4 := c_82
      refine lv_iconst (v := 1) hx hb dX12_join_10 (by decide) ?_
      refine lv_goto (tgt := 15) hx hb dX12_join_11 (by decide) ?_
      refine lv_istore (lv' := [(5, .int 1), (0, .ref h0), (1, .int 4), (2, .int p1), (3, .int p2), (4, .int p3)]) hx hb dX12_join_15 hl (by decide) rfl (fun ls hl => ?_)
      refine lv_iload_n hx hb dX12_join_17 rfl (lv_at hl 3 rfl) ?_
      refine lv_iconst (v := (-1)) hx hb dX12_join_18 (by decide) ?_
      refine lv_icmp_ne (tgt := 26) hx hb dX12_join_19 (by decide) (fun c_199 => ?_) (fun c_199 => ?_)
      · refine lv_iconst (v := 0) hx hb dX12_join_26 (by decide) ?_
        refine lv_iload_n hx hb dX12_join_27 rfl (lv_at hl 4 rfl) ?_
        refine lv_iconst (v := (-1)) hx hb dX12_join_28 (by decide) ?_
        refine lv_icmp_ne (tgt := 36) hx hb dX12_join_29 (by decide) (fun c_200 => ?_) (fun c_200 => ?_)
        · refine lv_iconst (v := 0) hx hb dX12_join_36 (by decide) ?_
          refine lv_iadd hx hb dX12_join_37 ?_
          refine lv_topi (fun f_201 ef_201 => ?_)
          obtain rfl : (0 : Int32) = f_201 := (ef_201.trans (by decide)).symm
          refine lv_iload_n hx hb dX12_join_38 rfl (lv_at hl 2 rfl) ?_
          refine lv_iconst (v := 4) hx hb dX12_join_39 (by decide) ?_
          refine lv_icmp_ne (tgt := 53) hx hb dX12_join_40 (by decide) (fun c_202 => absurd (by decide) c_202) (fun _ => ?_)
          refine lv_iload hx hb dX12_join_43 (lv_at hl 5 rfl) ?_
          refine lv_iconst (v := (-1)) hx hb dX12_join_45 (by decide) ?_
          refine lv_icmp_ne (tgt := 53) hx hb dX12_join_46 (by decide) (fun c_203 => ?_) (fun c_203 => ?_)
          · refine lv_iconst (v := 0) hx hb dX12_join_53 (by decide) ?_
            refine lv_iadd hx hb dX12_join_54 ?_
            refine lv_topi (fun f_204 ef_204 => ?_)
            obtain rfl : (0 : Int32) = f_204 := (ef_204.trans (by decide)).symm
            refine lv_istore (lv' := [(6, .int 0), (5, .int 1), (0, .ref h0), (1, .int 4), (2, .int p1), (3, .int p2), (4, .int p3)]) hx hb dX12_join_55 hl (by decide) rfl (fun ls hl => ?_)
            refine lv_iload_n hx hb dX12_join_57 rfl (lv_at hl 3 rfl) ?_
            refine lv_i2l (v := 4) hx hb dX12_join_58 (by decide) ?_
            refine lv_lconst (v := 1) hx hb dX12_join_59 (by decide) ?_
            refine lv_ldc2 (v := 4) hx hb hown (hts (.constantLong RX12 472 (4)) (List.mem_of_getElem? (i := 1) rfl)) dX12_join_60 ?_
            refine vp_callSi (va_Run.run (va_runS (As := [.long 4, .long 1, .long 4]) (rest := []) ⟨hx, hb, hml, hown, hts⟩ (c_X12_in l 4 1 4) (va_cwS 3 hts gq_X12_join_X12_in_372 rfl rfl rfl (by decide +kernel) ⟨Nat.le_of_ble_eq_true rfl, Nat.le_of_ble_eq_true rfl⟩) ⟨fun a U g mk q => q, fun U hU hW => ⟨rfl, trivial⟩⟩ rfl rfl hl.1 rfl (lv_room (Nat.le_of_ble_eq_true rfl)) dX12_join_63 ⟨Nat.le_of_ble_eq_true rfl, Nat.le_of_ble_eq_true rfl⟩)) (fun r_205 hr_205 => ?_)
            rcases hr_205 with ⟨rfl, hlo_206, hhi_206⟩ | ⟨rfl, hno_206⟩
            · refine lv_if_eq (tgt := 119) hx hb dX12_join_66 (by decide) (fun c_207 => absurd c_207 (by decide)) (fun _ => ?_)
              refine lv_iload_n hx hb dX12_join_69 rfl (lv_at hl 4 rfl) ?_
              refine lv_iconst (v := (-1)) hx hb dX12_join_70 (by decide) ?_
              refine lv_icmp_eq (tgt := 82) hx hb dX12_join_71 (by decide) (fun c_208 => absurd c_208 c_199) (fun _ => ?_)
              refine lv_aload_n hx hb dX12_join_74 rfl (lv_at hl 2 rfl) ?_
              refine lv_iload_n hx hb dX12_join_75 rfl (lv_at hl 4 rfl) ?_
              have hPc := hP.sub (ws' := [(h0, .inr (12, (fsM g)))]) [0] rfl
              have hDc := hD.sub (ws' := [(h0, .inr (12, (fsM g)))]) [0] (by decide) rfl
              have hKc := hK
              refine vp_callSi (va_Run.run (va_runV (As := [.int p1]) (rest := []) ⟨hx, hb, hml, hown, hts⟩ (c_X12_isVolume l dC dI cI cB cZ cJ cC cP cV cT cO s.heap.size h0 g p1) (cwV 1 hts gq_X12_join_X12_isVolume_474 rfl rfl rfl (by decide +kernel) ⟨Nat.le_of_ble_eq_true rfl, Nat.le_of_ble_eq_true rfl⟩) ⟨fun a U g mk q => by obtain ⟨q0, q1, qP, qK, qD⟩ := q; exact ⟨q0, q1, qP, va_K.moved (u := U) (U := U.calling g mk a) (Vm.Alike.refl U.vm) qK, qD⟩, va_recv hKc hPc (ci := 12) (q0 := 0) rfl rfl, fun U hU hW => ⟨rfl, by rw [hU], by rw [hU]; exact hPc, va_K.moved hW.alike hKc, hDc.weaken (fun _ _ _ _ => trivial)⟩⟩ rfl rfl hl.1 rfl (lv_room (Nat.le_of_ble_eq_true rfl)) dX12_join_76 ⟨Nat.le_of_ble_eq_true rfl, Nat.le_of_ble_eq_true rfl⟩)) (fun r_209 hr_209 => ?_)
              obtain rfl : r_209 = 0 := hr_209
              refine lv_if_eq (tgt := 119) hx hb dX12_join_79 (by decide) (fun _ => ?_) (fun c_210 => absurd (by decide) c_210)
              refine lv_iconst (v := 0) hx hb dX12_join_119 (by decide) ?_
              refine lv_istore (lv' := [(7, .int 0), (6, .int 0), (5, .int 1), (0, .ref h0), (1, .int 4), (2, .int p1), (3, .int p2), (4, .int p3)]) hx hb dX12_join_120 hl (by decide) rfl (fun ls hl => ?_)
              refine lv_iload_n hx hb dX12_join_122 rfl (lv_at hl 5 rfl) ?_
              refine lv_if_lt (tgt := 137) hx hb dX12_join_123 (by decide) (fun c_211 => ?_) (fun c_211 => ?_)
              · refine lv_iload_n hx hb dX12_join_137 rfl (lv_at hl 6 rfl) ?_
                refine lv_if_lt (tgt := 151) hx hb dX12_join_138 (by decide) (fun c_212 => ?_) (fun c_212 => ?_)
                · refine lv_iconst (v := 0) hx hb dX12_join_151 (by decide) ?_
                  refine lv_istore (lv' := [(8, .int 0), (7, .int 0), (6, .int 0), (5, .int 1), (0, .ref h0), (1, .int 4), (2, .int p1), (3, .int p2), (4, .int p3)]) hx hb dX12_join_152 hl (by decide) rfl (fun ls hl => ?_)
                  refine lv_iload hx hb dX12_join_154 (lv_at hl 1 rfl) ?_
                  refine lv_if_eq (tgt := 179) hx hb dX12_join_156 (by decide) (fun _ => ?_) (fun c_213 => absurd (by decide) c_213)
                  refine lv_bipush (v := (-2)) hx hb dX12_join_179 (by decide) ?_
                  exact W.iret (v := (-2)) hx hb hr (fun t ht hW => ⟨(-2), rfl, rfl, ht⟩) (fun _ h => by cases h) dX12_join_181
                · refine lv_iload_n hx hb dX12_join_141 rfl (lv_at hl 6 rfl) ?_
                  refine lv_iload hx hb dX12_join_142 (lv_at hl 7 rfl) ?_
                  refine lv_icmp_ne (tgt := 151) hx hb dX12_join_144 (by decide) (fun c_214 => ?_) (fun c_214 => ?_)
                  · refine lv_iconst (v := 0) hx hb dX12_join_151 (by decide) ?_
                    refine lv_istore (lv' := [(8, .int 0), (7, .int 0), (6, .int 0), (5, .int 1), (0, .ref h0), (1, .int 4), (2, .int p1), (3, .int p2), (4, .int p3)]) hx hb dX12_join_152 hl (by decide) rfl (fun ls hl => ?_)
                    refine lv_iload hx hb dX12_join_154 (lv_at hl 1 rfl) ?_
                    refine lv_if_eq (tgt := 179) hx hb dX12_join_156 (by decide) (fun _ => ?_) (fun c_215 => absurd (by decide) c_215)
                    refine lv_bipush (v := (-2)) hx hb dX12_join_179 (by decide) ?_
                    exact W.iret (v := (-2)) hx hb hr (fun t ht hW => ⟨(-2), rfl, rfl, ht⟩) (fun _ h => by cases h) dX12_join_181
                  · refine lv_iconst (v := 1) hx hb dX12_join_147 (by decide) ?_
                    refine lv_goto (tgt := 152) hx hb dX12_join_148 (by decide) ?_
                    refine lv_istore (lv' := [(8, .int 1), (7, .int 0), (6, .int 0), (5, .int 1), (0, .ref h0), (1, .int 4), (2, .int p1), (3, .int p2), (4, .int p3)]) hx hb dX12_join_152 hl (by decide) rfl (fun ls hl => ?_)
                    refine lv_iload hx hb dX12_join_154 (lv_at hl 1 rfl) ?_
                    refine lv_if_eq (tgt := 179) hx hb dX12_join_156 (by decide) (fun _ => ?_) (fun c_216 => absurd (by decide) c_216)
                    refine lv_bipush (v := (-2)) hx hb dX12_join_179 (by decide) ?_
                    exact W.iret (v := (-2)) hx hb hr (fun t ht hW => ⟨(-2), rfl, rfl, ht⟩) (fun _ h => by cases h) dX12_join_181
              · refine lv_iload_n hx hb dX12_join_126 rfl (lv_at hl 5 rfl) ?_
                refine lv_iload_n hx hb dX12_join_127 rfl (lv_at hl 6 rfl) ?_
                refine lv_icmp_eq (tgt := 147) hx hb dX12_join_128 (by decide) (fun c_217 => ?_) (fun c_217 => ?_)
                · refine lv_iconst (v := 1) hx hb dX12_join_147 (by decide) ?_
                  refine lv_goto (tgt := 152) hx hb dX12_join_148 (by decide) ?_
                  refine lv_istore (lv' := [(8, .int 1), (7, .int 0), (6, .int 0), (5, .int 1), (0, .ref h0), (1, .int 4), (2, .int p1), (3, .int p2), (4, .int p3)]) hx hb dX12_join_152 hl (by decide) rfl (fun ls hl => ?_)
                  refine lv_iload hx hb dX12_join_154 (lv_at hl 1 rfl) ?_
                  refine lv_if_eq (tgt := 179) hx hb dX12_join_156 (by decide) (fun _ => ?_) (fun c_218 => absurd (by decide) c_218)
                  refine lv_bipush (v := (-2)) hx hb dX12_join_179 (by decide) ?_
                  exact W.iret (v := (-2)) hx hb hr (fun t ht hW => ⟨(-2), rfl, rfl, ht⟩) (fun _ h => by cases h) dX12_join_181
                · refine lv_iload_n hx hb dX12_join_131 rfl (lv_at hl 5 rfl) ?_
                  refine lv_iload hx hb dX12_join_132 (lv_at hl 7 rfl) ?_
                  refine lv_icmp_eq (tgt := 147) hx hb dX12_join_134 (by decide) (fun c_219 => ?_) (fun c_219 => ?_)
                  · refine lv_iconst (v := 1) hx hb dX12_join_147 (by decide) ?_
                    refine lv_goto (tgt := 152) hx hb dX12_join_148 (by decide) ?_
                    refine lv_istore (lv' := [(8, .int 1), (7, .int 0), (6, .int 0), (5, .int 1), (0, .ref h0), (1, .int 4), (2, .int p1), (3, .int p2), (4, .int p3)]) hx hb dX12_join_152 hl (by decide) rfl (fun ls hl => ?_)
                    refine lv_iload hx hb dX12_join_154 (lv_at hl 1 rfl) ?_
                    refine lv_if_eq (tgt := 179) hx hb dX12_join_156 (by decide) (fun _ => ?_) (fun c_220 => absurd (by decide) c_220)
                    refine lv_bipush (v := (-2)) hx hb dX12_join_179 (by decide) ?_
                    exact W.iret (v := (-2)) hx hb hr (fun t ht hW => ⟨(-2), rfl, rfl, ht⟩) (fun _ h => by cases h) dX12_join_181
                  · refine lv_iload_n hx hb dX12_join_137 rfl (lv_at hl 6 rfl) ?_
                    refine lv_if_lt (tgt := 151) hx hb dX12_join_138 (by decide) (fun c_221 => ?_) (fun c_221 => ?_)
                    · refine lv_iconst (v := 0) hx hb dX12_join_151 (by decide) ?_
                      refine lv_istore (lv' := [(8, .int 0), (7, .int 0), (6, .int 0), (5, .int 1), (0, .ref h0), (1, .int 4), (2, .int p1), (3, .int p2), (4, .int p3)]) hx hb dX12_join_152 hl (by decide) rfl (fun ls hl => ?_)
                      refine lv_iload hx hb dX12_join_154 (lv_at hl 1 rfl) ?_
                      refine lv_if_eq (tgt := 179) hx hb dX12_join_156 (by decide) (fun _ => ?_) (fun c_222 => absurd (by decide) c_222)
                      refine lv_bipush (v := (-2)) hx hb dX12_join_179 (by decide) ?_
                      exact W.iret (v := (-2)) hx hb hr (fun t ht hW => ⟨(-2), rfl, rfl, ht⟩) (fun _ h => by cases h) dX12_join_181
                    · refine lv_iload_n hx hb dX12_join_141 rfl (lv_at hl 6 rfl) ?_
                      refine lv_iload hx hb dX12_join_142 (lv_at hl 7 rfl) ?_
                      refine lv_icmp_ne (tgt := 151) hx hb dX12_join_144 (by decide) (fun c_223 => ?_) (fun c_223 => ?_)
                      · refine lv_iconst (v := 0) hx hb dX12_join_151 (by decide) ?_
                        refine lv_istore (lv' := [(8, .int 0), (7, .int 0), (6, .int 0), (5, .int 1), (0, .ref h0), (1, .int 4), (2, .int p1), (3, .int p2), (4, .int p3)]) hx hb dX12_join_152 hl (by decide) rfl (fun ls hl => ?_)
                        refine lv_iload hx hb dX12_join_154 (lv_at hl 1 rfl) ?_
                        refine lv_if_eq (tgt := 179) hx hb dX12_join_156 (by decide) (fun _ => ?_) (fun c_224 => absurd (by decide) c_224)
                        refine lv_bipush (v := (-2)) hx hb dX12_join_179 (by decide) ?_
                        exact W.iret (v := (-2)) hx hb hr (fun t ht hW => ⟨(-2), rfl, rfl, ht⟩) (fun _ h => by cases h) dX12_join_181
                      · refine lv_iconst (v := 1) hx hb dX12_join_147 (by decide) ?_
                        refine lv_goto (tgt := 152) hx hb dX12_join_148 (by decide) ?_
                        refine lv_istore (lv' := [(8, .int 1), (7, .int 0), (6, .int 0), (5, .int 1), (0, .ref h0), (1, .int 4), (2, .int p1), (3, .int p2), (4, .int p3)]) hx hb dX12_join_152 hl (by decide) rfl (fun ls hl => ?_)
                        refine lv_iload hx hb dX12_join_154 (lv_at hl 1 rfl) ?_
                        refine lv_if_eq (tgt := 179) hx hb dX12_join_156 (by decide) (fun _ => ?_) (fun c_225 => absurd (by decide) c_225)
                        refine lv_bipush (v := (-2)) hx hb dX12_join_179 (by decide) ?_
                        exact W.iret (v := (-2)) hx hb hr (fun t ht hW => ⟨(-2), rfl, rfl, ht⟩) (fun _ h => by cases h) dX12_join_181
            · exact absurd ⟨by decide, by decide⟩ hno_206
          · obtain rfl : p3 = (-1) := c_203
            refine lv_iconst (v := 1) hx hb dX12_join_49 (by decide) ?_
            refine lv_goto (tgt := 54) hx hb dX12_join_50 (by decide) ?_
            refine lv_iadd hx hb dX12_join_54 ?_
            refine lv_topi (fun f_226 ef_226 => ?_)
            obtain rfl : (1 : Int32) = f_226 := (ef_226.trans (by decide)).symm
            refine lv_istore (lv' := [(6, .int 1), (5, .int 1), (0, .ref h0), (1, .int 4), (2, .int p1), (3, .int p2), (4, .int (-1))]) hx hb dX12_join_55 hl (by decide) rfl (fun ls hl => ?_)
            refine lv_iload_n hx hb dX12_join_57 rfl (lv_at hl 3 rfl) ?_
            refine lv_i2l (v := 4) hx hb dX12_join_58 (by decide) ?_
            refine lv_lconst (v := 1) hx hb dX12_join_59 (by decide) ?_
            refine lv_ldc2 (v := 4) hx hb hown (hts (.constantLong RX12 472 (4)) (List.mem_of_getElem? (i := 1) rfl)) dX12_join_60 ?_
            refine vp_callSi (va_Run.run (va_runS (As := [.long 4, .long 1, .long 4]) (rest := []) ⟨hx, hb, hml, hown, hts⟩ (c_X12_in l 4 1 4) (va_cwS 3 hts gq_X12_join_X12_in_372 rfl rfl rfl (by decide +kernel) ⟨Nat.le_of_ble_eq_true rfl, Nat.le_of_ble_eq_true rfl⟩) ⟨fun a U g mk q => q, fun U hU hW => ⟨rfl, trivial⟩⟩ rfl rfl hl.1 rfl (lv_room (Nat.le_of_ble_eq_true rfl)) dX12_join_63 ⟨Nat.le_of_ble_eq_true rfl, Nat.le_of_ble_eq_true rfl⟩)) (fun r_227 hr_227 => ?_)
            rcases hr_227 with ⟨rfl, hlo_228, hhi_228⟩ | ⟨rfl, hno_228⟩
            · refine lv_if_eq (tgt := 119) hx hb dX12_join_66 (by decide) (fun c_229 => absurd c_229 (by decide)) (fun _ => ?_)
              refine lv_iload_n hx hb dX12_join_69 rfl (lv_at hl 4 rfl) ?_
              refine lv_iconst (v := (-1)) hx hb dX12_join_70 (by decide) ?_
              refine lv_icmp_eq (tgt := 82) hx hb dX12_join_71 (by decide) (fun c_230 => absurd c_230 c_199) (fun _ => ?_)
              refine lv_aload_n hx hb dX12_join_74 rfl (lv_at hl 2 rfl) ?_
              refine lv_iload_n hx hb dX12_join_75 rfl (lv_at hl 4 rfl) ?_
              have hPc := hP.sub (ws' := [(h0, .inr (12, (fsM g)))]) [0] rfl
              have hDc := hD.sub (ws' := [(h0, .inr (12, (fsM g)))]) [0] (by decide) rfl
              have hKc := hK
              refine vp_callSi (va_Run.run (va_runV (As := [.int p1]) (rest := []) ⟨hx, hb, hml, hown, hts⟩ (c_X12_isVolume l dC dI cI cB cZ cJ cC cP cV cT cO s.heap.size h0 g p1) (cwV 1 hts gq_X12_join_X12_isVolume_474 rfl rfl rfl (by decide +kernel) ⟨Nat.le_of_ble_eq_true rfl, Nat.le_of_ble_eq_true rfl⟩) ⟨fun a U g mk q => by obtain ⟨q0, q1, qP, qK, qD⟩ := q; exact ⟨q0, q1, qP, va_K.moved (u := U) (U := U.calling g mk a) (Vm.Alike.refl U.vm) qK, qD⟩, va_recv hKc hPc (ci := 12) (q0 := 0) rfl rfl, fun U hU hW => ⟨rfl, by rw [hU], by rw [hU]; exact hPc, va_K.moved hW.alike hKc, hDc.weaken (fun _ _ _ _ => trivial)⟩⟩ rfl rfl hl.1 rfl (lv_room (Nat.le_of_ble_eq_true rfl)) dX12_join_76 ⟨Nat.le_of_ble_eq_true rfl, Nat.le_of_ble_eq_true rfl⟩)) (fun r_231 hr_231 => ?_)
              obtain rfl : r_231 = 0 := hr_231
              refine lv_if_eq (tgt := 119) hx hb dX12_join_79 (by decide) (fun _ => ?_) (fun c_232 => absurd (by decide) c_232)
              refine lv_iconst (v := 0) hx hb dX12_join_119 (by decide) ?_
              refine lv_istore (lv' := [(7, .int 0), (6, .int 1), (5, .int 1), (0, .ref h0), (1, .int 4), (2, .int p1), (3, .int p2), (4, .int (-1))]) hx hb dX12_join_120 hl (by decide) rfl (fun ls hl => ?_)
              refine lv_iload_n hx hb dX12_join_122 rfl (lv_at hl 5 rfl) ?_
              refine lv_if_lt (tgt := 137) hx hb dX12_join_123 (by decide) (fun c_233 => ?_) (fun c_233 => ?_)
              · refine lv_iload_n hx hb dX12_join_137 rfl (lv_at hl 6 rfl) ?_
                refine lv_if_lt (tgt := 151) hx hb dX12_join_138 (by decide) (fun c_234 => ?_) (fun c_234 => ?_)
                · refine lv_iconst (v := 0) hx hb dX12_join_151 (by decide) ?_
                  refine lv_istore (lv' := [(8, .int 0), (7, .int 0), (6, .int 1), (5, .int 1), (0, .ref h0), (1, .int 4), (2, .int p1), (3, .int p2), (4, .int (-1))]) hx hb dX12_join_152 hl (by decide) rfl (fun ls hl => ?_)
                  refine lv_iload hx hb dX12_join_154 (lv_at hl 1 rfl) ?_
                  refine lv_if_eq (tgt := 179) hx hb dX12_join_156 (by decide) (fun _ => ?_) (fun c_235 => absurd (by decide) c_235)
                  refine lv_bipush (v := (-2)) hx hb dX12_join_179 (by decide) ?_
                  exact W.iret (v := (-2)) hx hb hr (fun t ht hW => ⟨(-2), rfl, rfl, ht⟩) (fun _ h => by cases h) dX12_join_181
                · refine lv_iload_n hx hb dX12_join_141 rfl (lv_at hl 6 rfl) ?_
                  refine lv_iload hx hb dX12_join_142 (lv_at hl 7 rfl) ?_
                  refine lv_icmp_ne (tgt := 151) hx hb dX12_join_144 (by decide) (fun _ => ?_) (fun c_236 => absurd c_236 c_200)
                  refine lv_iconst (v := 0) hx hb dX12_join_151 (by decide) ?_
                  refine lv_istore (lv' := [(8, .int 0), (7, .int 0), (6, .int 1), (5, .int 1), (0, .ref h0), (1, .int 4), (2, .int p1), (3, .int p2), (4, .int (-1))]) hx hb dX12_join_152 hl (by decide) rfl (fun ls hl => ?_)
                  refine lv_iload hx hb dX12_join_154 (lv_at hl 1 rfl) ?_
                  refine lv_if_eq (tgt := 179) hx hb dX12_join_156 (by decide) (fun _ => ?_) (fun c_237 => absurd (by decide) c_237)
                  refine lv_bipush (v := (-2)) hx hb dX12_join_179 (by decide) ?_
                  exact W.iret (v := (-2)) hx hb hr (fun t ht hW => ⟨(-2), rfl, rfl, ht⟩) (fun _ h => by cases h) dX12_join_181
              · refine lv_iload_n hx hb dX12_join_126 rfl (lv_at hl 5 rfl) ?_
                refine lv_iload_n hx hb dX12_join_127 rfl (lv_at hl 6 rfl) ?_
                refine lv_icmp_eq (tgt := 147) hx hb dX12_join_128 (by decide) (fun c_238 => ?_) (fun c_238 => ?_)
                · refine lv_iconst (v := 1) hx hb dX12_join_147 (by decide) ?_
                  refine lv_goto (tgt := 152) hx hb dX12_join_148 (by decide) ?_
                  refine lv_istore (lv' := [(8, .int 1), (7, .int 0), (6, .int 1), (5, .int 1), (0, .ref h0), (1, .int 4), (2, .int p1), (3, .int p2), (4, .int (-1))]) hx hb dX12_join_152 hl (by decide) rfl (fun ls hl => ?_)
                  refine lv_iload hx hb dX12_join_154 (lv_at hl 1 rfl) ?_
                  refine lv_if_eq (tgt := 179) hx hb dX12_join_156 (by decide) (fun _ => ?_) (fun c_239 => absurd (by decide) c_239)
                  refine lv_bipush (v := (-2)) hx hb dX12_join_179 (by decide) ?_
                  exact W.iret (v := (-2)) hx hb hr (fun t ht hW => ⟨(-2), rfl, rfl, ht⟩) (fun _ h => by cases h) dX12_join_181
                · refine lv_iload_n hx hb dX12_join_131 rfl (lv_at hl 5 rfl) ?_
                  refine lv_iload hx hb dX12_join_132 (lv_at hl 7 rfl) ?_
                  refine lv_icmp_eq (tgt := 147) hx hb dX12_join_134 (by decide) (fun c_240 => absurd c_240 c_199) (fun _ => ?_)
                  refine lv_iload_n hx hb dX12_join_137 rfl (lv_at hl 6 rfl) ?_
                  refine lv_if_lt (tgt := 151) hx hb dX12_join_138 (by decide) (fun c_241 => ?_) (fun c_241 => ?_)
                  · refine lv_iconst (v := 0) hx hb dX12_join_151 (by decide) ?_
                    refine lv_istore (lv' := [(8, .int 0), (7, .int 0), (6, .int 1), (5, .int 1), (0, .ref h0), (1, .int 4), (2, .int p1), (3, .int p2), (4, .int (-1))]) hx hb dX12_join_152 hl (by decide) rfl (fun ls hl => ?_)
                    refine lv_iload hx hb dX12_join_154 (lv_at hl 1 rfl) ?_
                    refine lv_if_eq (tgt := 179) hx hb dX12_join_156 (by decide) (fun _ => ?_) (fun c_242 => absurd (by decide) c_242)
                    refine lv_bipush (v := (-2)) hx hb dX12_join_179 (by decide) ?_
                    exact W.iret (v := (-2)) hx hb hr (fun t ht hW => ⟨(-2), rfl, rfl, ht⟩) (fun _ h => by cases h) dX12_join_181
                  · refine lv_iload_n hx hb dX12_join_141 rfl (lv_at hl 6 rfl) ?_
                    refine lv_iload hx hb dX12_join_142 (lv_at hl 7 rfl) ?_
                    refine lv_icmp_ne (tgt := 151) hx hb dX12_join_144 (by decide) (fun _ => ?_) (fun c_243 => absurd c_243 c_200)
                    refine lv_iconst (v := 0) hx hb dX12_join_151 (by decide) ?_
                    refine lv_istore (lv' := [(8, .int 0), (7, .int 0), (6, .int 1), (5, .int 1), (0, .ref h0), (1, .int 4), (2, .int p1), (3, .int p2), (4, .int (-1))]) hx hb dX12_join_152 hl (by decide) rfl (fun ls hl => ?_)
                    refine lv_iload hx hb dX12_join_154 (lv_at hl 1 rfl) ?_
                    refine lv_if_eq (tgt := 179) hx hb dX12_join_156 (by decide) (fun _ => ?_) (fun c_244 => absurd (by decide) c_244)
                    refine lv_bipush (v := (-2)) hx hb dX12_join_179 (by decide) ?_
                    exact W.iret (v := (-2)) hx hb hr (fun t ht hW => ⟨(-2), rfl, rfl, ht⟩) (fun _ h => by cases h) dX12_join_181
            · exact absurd ⟨by decide, by decide⟩ hno_228
        · obtain rfl : p2 = (-1) := c_200
          refine lv_iconst (v := 1) hx hb dX12_join_32 (by decide) ?_
          refine lv_goto (tgt := 37) hx hb dX12_join_33 (by decide) ?_
          refine lv_iadd hx hb dX12_join_37 ?_
          refine lv_topi (fun f_245 ef_245 => ?_)
          obtain rfl : (1 : Int32) = f_245 := (ef_245.trans (by decide)).symm
          refine lv_iload_n hx hb dX12_join_38 rfl (lv_at hl 2 rfl) ?_
          refine lv_iconst (v := 4) hx hb dX12_join_39 (by decide) ?_
          refine lv_icmp_ne (tgt := 53) hx hb dX12_join_40 (by decide) (fun c_246 => absurd (by decide) c_246) (fun _ => ?_)
          refine lv_iload hx hb dX12_join_43 (lv_at hl 5 rfl) ?_
          refine lv_iconst (v := (-1)) hx hb dX12_join_45 (by decide) ?_
          refine lv_icmp_ne (tgt := 53) hx hb dX12_join_46 (by decide) (fun c_247 => ?_) (fun c_247 => ?_)
          · refine lv_iconst (v := 0) hx hb dX12_join_53 (by decide) ?_
            refine lv_iadd hx hb dX12_join_54 ?_
            refine lv_topi (fun f_248 ef_248 => ?_)
            obtain rfl : (1 : Int32) = f_248 := (ef_248.trans (by decide)).symm
            refine lv_istore (lv' := [(6, .int 1), (5, .int 1), (0, .ref h0), (1, .int 4), (2, .int p1), (3, .int (-1)), (4, .int p3)]) hx hb dX12_join_55 hl (by decide) rfl (fun ls hl => ?_)
            refine lv_iload_n hx hb dX12_join_57 rfl (lv_at hl 3 rfl) ?_
            refine lv_i2l (v := 4) hx hb dX12_join_58 (by decide) ?_
            refine lv_lconst (v := 1) hx hb dX12_join_59 (by decide) ?_
            refine lv_ldc2 (v := 4) hx hb hown (hts (.constantLong RX12 472 (4)) (List.mem_of_getElem? (i := 1) rfl)) dX12_join_60 ?_
            refine vp_callSi (va_Run.run (va_runS (As := [.long 4, .long 1, .long 4]) (rest := []) ⟨hx, hb, hml, hown, hts⟩ (c_X12_in l 4 1 4) (va_cwS 3 hts gq_X12_join_X12_in_372 rfl rfl rfl (by decide +kernel) ⟨Nat.le_of_ble_eq_true rfl, Nat.le_of_ble_eq_true rfl⟩) ⟨fun a U g mk q => q, fun U hU hW => ⟨rfl, trivial⟩⟩ rfl rfl hl.1 rfl (lv_room (Nat.le_of_ble_eq_true rfl)) dX12_join_63 ⟨Nat.le_of_ble_eq_true rfl, Nat.le_of_ble_eq_true rfl⟩)) (fun r_249 hr_249 => ?_)
            rcases hr_249 with ⟨rfl, hlo_250, hhi_250⟩ | ⟨rfl, hno_250⟩
            · refine lv_if_eq (tgt := 119) hx hb dX12_join_66 (by decide) (fun c_251 => absurd c_251 (by decide)) (fun _ => ?_)
              refine lv_iload_n hx hb dX12_join_69 rfl (lv_at hl 4 rfl) ?_
              refine lv_iconst (v := (-1)) hx hb dX12_join_70 (by decide) ?_
              refine lv_icmp_eq (tgt := 82) hx hb dX12_join_71 (by decide) (fun c_252 => absurd c_252 c_199) (fun _ => ?_)
              refine lv_aload_n hx hb dX12_join_74 rfl (lv_at hl 2 rfl) ?_
              refine lv_iload_n hx hb dX12_join_75 rfl (lv_at hl 4 rfl) ?_
              have hPc := hP.sub (ws' := [(h0, .inr (12, (fsM g)))]) [0] rfl
              have hDc := hD.sub (ws' := [(h0, .inr (12, (fsM g)))]) [0] (by decide) rfl
              have hKc := hK
              refine vp_callSi (va_Run.run (va_runV (As := [.int p1]) (rest := []) ⟨hx, hb, hml, hown, hts⟩ (c_X12_isVolume l dC dI cI cB cZ cJ cC cP cV cT cO s.heap.size h0 g p1) (cwV 1 hts gq_X12_join_X12_isVolume_474 rfl rfl rfl (by decide +kernel) ⟨Nat.le_of_ble_eq_true rfl, Nat.le_of_ble_eq_true rfl⟩) ⟨fun a U g mk q => by obtain ⟨q0, q1, qP, qK, qD⟩ := q; exact ⟨q0, q1, qP, va_K.moved (u := U) (U := U.calling g mk a) (Vm.Alike.refl U.vm) qK, qD⟩, va_recv hKc hPc (ci := 12) (q0 := 0) rfl rfl, fun U hU hW => ⟨rfl, by rw [hU], by rw [hU]; exact hPc, va_K.moved hW.alike hKc, hDc.weaken (fun _ _ _ _ => trivial)⟩⟩ rfl rfl hl.1 rfl (lv_room (Nat.le_of_ble_eq_true rfl)) dX12_join_76 ⟨Nat.le_of_ble_eq_true rfl, Nat.le_of_ble_eq_true rfl⟩)) (fun r_253 hr_253 => ?_)
              obtain rfl : r_253 = 0 := hr_253
              refine lv_if_eq (tgt := 119) hx hb dX12_join_79 (by decide) (fun _ => ?_) (fun c_254 => absurd (by decide) c_254)
              refine lv_iconst (v := 0) hx hb dX12_join_119 (by decide) ?_
              refine lv_istore (lv' := [(7, .int 0), (6, .int 1), (5, .int 1), (0, .ref h0), (1, .int 4), (2, .int p1), (3, .int (-1)), (4, .int p3)]) hx hb dX12_join_120 hl (by decide) rfl (fun ls hl => ?_)
              refine lv_iload_n hx hb dX12_join_122 rfl (lv_at hl 5 rfl) ?_
              refine lv_if_lt (tgt := 137) hx hb dX12_join_123 (by decide) (fun c_255 => ?_) (fun c_255 => ?_)
              · refine lv_iload_n hx hb dX12_join_137 rfl (lv_at hl 6 rfl) ?_
                refine lv_if_lt (tgt := 151) hx hb dX12_join_138 (by decide) (fun _ => ?_) (fun c_256 => absurd (by decide) c_256)
                refine lv_iconst (v := 0) hx hb dX12_join_151 (by decide) ?_
                refine lv_istore (lv' := [(8, .int 0), (7, .int 0), (6, .int 1), (5, .int 1), (0, .ref h0), (1, .int 4), (2, .int p1), (3, .int (-1)), (4, .int p3)]) hx hb dX12_join_152 hl (by decide) rfl (fun ls hl => ?_)
                refine lv_iload hx hb dX12_join_154 (lv_at hl 1 rfl) ?_
                refine lv_if_eq (tgt := 179) hx hb dX12_join_156 (by decide) (fun _ => ?_) (fun c_257 => absurd (by decide) c_257)
                refine lv_bipush (v := (-2)) hx hb dX12_join_179 (by decide) ?_
                exact W.iret (v := (-2)) hx hb hr (fun t ht hW => ⟨(-2), rfl, rfl, ht⟩) (fun _ h => by cases h) dX12_join_181
              · refine lv_iload_n hx hb dX12_join_126 rfl (lv_at hl 5 rfl) ?_
                refine lv_iload_n hx hb dX12_join_127 rfl (lv_at hl 6 rfl) ?_
                refine lv_icmp_eq (tgt := 147) hx hb dX12_join_128 (by decide) (fun c_258 => absurd c_258 c_199) (fun _ => ?_)
                refine lv_iload_n hx hb dX12_join_131 rfl (lv_at hl 5 rfl) ?_
                refine lv_iload hx hb dX12_join_132 (lv_at hl 7 rfl) ?_
                refine lv_icmp_eq (tgt := 147) hx hb dX12_join_134 (by decide) (fun c_259 => ?_) (fun c_259 => ?_)
                · refine lv_iconst (v := 1) hx hb dX12_join_147 (by decide) ?_
                  refine lv_goto (tgt := 152) hx hb dX12_join_148 (by decide) ?_
                  refine lv_istore (lv' := [(8, .int 1), (7, .int 0), (6, .int 1), (5, .int 1), (0, .ref h0), (1, .int 4), (2, .int p1), (3, .int (-1)), (4, .int p3)]) hx hb dX12_join_152 hl (by decide) rfl (fun ls hl => ?_)
                  refine lv_iload hx hb dX12_join_154 (lv_at hl 1 rfl) ?_
                  refine lv_if_eq (tgt := 179) hx hb dX12_join_156 (by decide) (fun _ => ?_) (fun c_260 => absurd (by decide) c_260)
                  refine lv_bipush (v := (-2)) hx hb dX12_join_179 (by decide) ?_
                  exact W.iret (v := (-2)) hx hb hr (fun t ht hW => ⟨(-2), rfl, rfl, ht⟩) (fun _ h => by cases h) dX12_join_181
                · refine lv_iload_n hx hb dX12_join_137 rfl (lv_at hl 6 rfl) ?_
                  refine lv_if_lt (tgt := 151) hx hb dX12_join_138 (by decide) (fun _ => ?_) (fun c_261 => absurd (by decide) c_261)
                  refine lv_iconst (v := 0) hx hb dX12_join_151 (by decide) ?_
                  refine lv_istore (lv' := [(8, .int 0), (7, .int 0), (6, .int 1), (5, .int 1), (0, .ref h0), (1, .int 4), (2, .int p1), (3, .int (-1)), (4, .int p3)]) hx hb dX12_join_152 hl (by decide) rfl (fun ls hl => ?_)
                  refine lv_iload hx hb dX12_join_154 (lv_at hl 1 rfl) ?_
                  refine lv_if_eq (tgt := 179) hx hb dX12_join_156 (by decide) (fun _ => ?_) (fun c_262 => absurd (by decide) c_262)
                  refine lv_bipush (v := (-2)) hx hb dX12_join_179 (by decide) ?_
                  exact W.iret (v := (-2)) hx hb hr (fun t ht hW => ⟨(-2), rfl, rfl, ht⟩) (fun _ h => by cases h) dX12_join_181
            · exact absurd ⟨by decide, by decide⟩ hno_250
          · obtain rfl : p3 = (-1) := c_247
            refine lv_iconst (v := 1) hx hb dX12_join_49 (by decide) ?_
            refine lv_goto (tgt := 54) hx hb dX12_join_50 (by decide) ?_
            refine lv_iadd hx hb dX12_join_54 ?_
            refine lv_topi (fun f_263 ef_263 => ?_)
            obtain rfl : (2 : Int32) = f_263 := (ef_263.trans (by decide)).symm
            refine lv_istore (lv' := [(6, .int 2), (5, .int 1), (0, .ref h0), (1, .int 4), (2, .int p1), (3, .int (-1)), (4, .int (-1))]) hx hb dX12_join_55 hl (by decide) rfl (fun ls hl => ?_)
            refine lv_iload_n hx hb dX12_join_57 rfl (lv_at hl 3 rfl) ?_
            refine lv_i2l (v := 4) hx hb dX12_join_58 (by decide) ?_
            refine lv_lconst (v := 1) hx hb dX12_join_59 (by decide) ?_
            refine lv_ldc2 (v := 4) hx hb hown (hts (.constantLong RX12 472 (4)) (List.mem_of_getElem? (i := 1) rfl)) dX12_join_60 ?_
            refine vp_callSi (va_Run.run (va_runS (As := [.long 4, .long 1, .long 4]) (rest := []) ⟨hx, hb, hml, hown, hts⟩ (c_X12_in l 4 1 4) (va_cwS 3 hts gq_X12_join_X12_in_372 rfl rfl rfl (by decide +kernel) ⟨Nat.le_of_ble_eq_true rfl, Nat.le_of_ble_eq_true rfl⟩) ⟨fun a U g mk q => q, fun U hU hW => ⟨rfl, trivial⟩⟩ rfl rfl hl.1 rfl (lv_room (Nat.le_of_ble_eq_true rfl)) dX12_join_63 ⟨Nat.le_of_ble_eq_true rfl, Nat.le_of_ble_eq_true rfl⟩)) (fun r_264 hr_264 => ?_)
            rcases hr_264 with ⟨rfl, hlo_265, hhi_265⟩ | ⟨rfl, hno_265⟩
            · refine lv_if_eq (tgt := 119) hx hb dX12_join_66 (by decide) (fun c_266 => absurd c_266 (by decide)) (fun _ => ?_)
              refine lv_iload_n hx hb dX12_join_69 rfl (lv_at hl 4 rfl) ?_
              refine lv_iconst (v := (-1)) hx hb dX12_join_70 (by decide) ?_
              refine lv_icmp_eq (tgt := 82) hx hb dX12_join_71 (by decide) (fun c_267 => absurd c_267 c_199) (fun _ => ?_)
              refine lv_aload_n hx hb dX12_join_74 rfl (lv_at hl 2 rfl) ?_
              refine lv_iload_n hx hb dX12_join_75 rfl (lv_at hl 4 rfl) ?_
              have hPc := hP.sub (ws' := [(h0, .inr (12, (fsM g)))]) [0] rfl
              have hDc := hD.sub (ws' := [(h0, .inr (12, (fsM g)))]) [0] (by decide) rfl
              have hKc := hK
              refine vp_callSi (va_Run.run (va_runV (As := [.int p1]) (rest := []) ⟨hx, hb, hml, hown, hts⟩ (c_X12_isVolume l dC dI cI cB cZ cJ cC cP cV cT cO s.heap.size h0 g p1) (cwV 1 hts gq_X12_join_X12_isVolume_474 rfl rfl rfl (by decide +kernel) ⟨Nat.le_of_ble_eq_true rfl, Nat.le_of_ble_eq_true rfl⟩) ⟨fun a U g mk q => by obtain ⟨q0, q1, qP, qK, qD⟩ := q; exact ⟨q0, q1, qP, va_K.moved (u := U) (U := U.calling g mk a) (Vm.Alike.refl U.vm) qK, qD⟩, va_recv hKc hPc (ci := 12) (q0 := 0) rfl rfl, fun U hU hW => ⟨rfl, by rw [hU], by rw [hU]; exact hPc, va_K.moved hW.alike hKc, hDc.weaken (fun _ _ _ _ => trivial)⟩⟩ rfl rfl hl.1 rfl (lv_room (Nat.le_of_ble_eq_true rfl)) dX12_join_76 ⟨Nat.le_of_ble_eq_true rfl, Nat.le_of_ble_eq_true rfl⟩)) (fun r_268 hr_268 => ?_)
              obtain rfl : r_268 = 0 := hr_268
              refine lv_if_eq (tgt := 119) hx hb dX12_join_79 (by decide) (fun _ => ?_) (fun c_269 => absurd (by decide) c_269)
              refine lv_iconst (v := 0) hx hb dX12_join_119 (by decide) ?_
              refine lv_istore (lv' := [(7, .int 0), (6, .int 2), (5, .int 1), (0, .ref h0), (1, .int 4), (2, .int p1), (3, .int (-1)), (4, .int (-1))]) hx hb dX12_join_120 hl (by decide) rfl (fun ls hl => ?_)
              refine lv_iload_n hx hb dX12_join_122 rfl (lv_at hl 5 rfl) ?_
              refine lv_if_lt (tgt := 137) hx hb dX12_join_123 (by decide) (fun c_270 => ?_) (fun c_270 => ?_)
              · refine lv_iload_n hx hb dX12_join_137 rfl (lv_at hl 6 rfl) ?_
                refine lv_if_lt (tgt := 151) hx hb dX12_join_138 (by decide) (fun _ => ?_) (fun c_271 => absurd (by decide) c_271)
                refine lv_iconst (v := 0) hx hb dX12_join_151 (by decide) ?_
                refine lv_istore (lv' := [(8, .int 0), (7, .int 0), (6, .int 2), (5, .int 1), (0, .ref h0), (1, .int 4), (2, .int p1), (3, .int (-1)), (4, .int (-1))]) hx hb dX12_join_152 hl (by decide) rfl (fun ls hl => ?_)
                refine lv_iload hx hb dX12_join_154 (lv_at hl 1 rfl) ?_
                refine lv_if_eq (tgt := 179) hx hb dX12_join_156 (by decide) (fun _ => ?_) (fun c_272 => absurd (by decide) c_272)
                refine lv_bipush (v := (-2)) hx hb dX12_join_179 (by decide) ?_
                exact W.iret (v := (-2)) hx hb hr (fun t ht hW => ⟨(-2), rfl, rfl, ht⟩) (fun _ h => by cases h) dX12_join_181
              · refine lv_iload_n hx hb dX12_join_126 rfl (lv_at hl 5 rfl) ?_
                refine lv_iload_n hx hb dX12_join_127 rfl (lv_at hl 6 rfl) ?_
                refine lv_icmp_eq (tgt := 147) hx hb dX12_join_128 (by decide) (fun c_273 => absurd c_273 c_199) (fun _ => ?_)
                refine lv_iload_n hx hb dX12_join_131 rfl (lv_at hl 5 rfl) ?_
                refine lv_iload hx hb dX12_join_132 (lv_at hl 7 rfl) ?_
                refine lv_icmp_eq (tgt := 147) hx hb dX12_join_134 (by decide) (fun c_274 => absurd c_274 c_199) (fun _ => ?_)
                refine lv_iload_n hx hb dX12_join_137 rfl (lv_at hl 6 rfl) ?_
                refine lv_if_lt (tgt := 151) hx hb dX12_join_138 (by decide) (fun _ => ?_) (fun c_275 => absurd (by decide) c_275)
                refine lv_iconst (v := 0) hx hb dX12_join_151 (by decide) ?_
                refine lv_istore (lv' := [(8, .int 0), (7, .int 0), (6, .int 2), (5, .int 1), (0, .ref h0), (1, .int 4), (2, .int p1), (3, .int (-1)), (4, .int (-1))]) hx hb dX12_join_152 hl (by decide) rfl (fun ls hl => ?_)
                refine lv_iload hx hb dX12_join_154 (lv_at hl 1 rfl) ?_
                refine lv_if_eq (tgt := 179) hx hb dX12_join_156 (by decide) (fun _ => ?_) (fun c_276 => absurd (by decide) c_276)
                refine lv_bipush (v := (-2)) hx hb dX12_join_179 (by decide) ?_
                exact W.iret (v := (-2)) hx hb hr (fun t ht hW => ⟨(-2), rfl, rfl, ht⟩) (fun _ h => by cases h) dX12_join_181
            · exact absurd ⟨by decide, by decide⟩ hno_265
      · obtain rfl : p1 = (-1) := c_199
        refine lv_iconst (v := 1) hx hb dX12_join_22 (by decide) ?_
        refine lv_goto (tgt := 27) hx hb dX12_join_23 (by decide) ?_
        refine lv_iload_n hx hb dX12_join_27 rfl (lv_at hl 4 rfl) ?_
        refine lv_iconst (v := (-1)) hx hb dX12_join_28 (by decide) ?_
        refine lv_icmp_ne (tgt := 36) hx hb dX12_join_29 (by decide) (fun c_277 => ?_) (fun c_277 => ?_)
        · refine lv_iconst (v := 0) hx hb dX12_join_36 (by decide) ?_
          refine lv_iadd hx hb dX12_join_37 ?_
          refine lv_topi (fun f_278 ef_278 => ?_)
          obtain rfl : (1 : Int32) = f_278 := (ef_278.trans (by decide)).symm
          refine lv_iload_n hx hb dX12_join_38 rfl (lv_at hl 2 rfl) ?_
          refine lv_iconst (v := 4) hx hb dX12_join_39 (by decide) ?_
          refine lv_icmp_ne (tgt := 53) hx hb dX12_join_40 (by decide) (fun c_279 => absurd (by decide) c_279) (fun _ => ?_)
          refine lv_iload hx hb dX12_join_43 (lv_at hl 5 rfl) ?_
          refine lv_iconst (v := (-1)) hx hb dX12_join_45 (by decide) ?_
          refine lv_icmp_ne (tgt := 53) hx hb dX12_join_46 (by decide) (fun c_280 => ?_) (fun c_280 => ?_)
          · refine lv_iconst (v := 0) hx hb dX12_join_53 (by decide) ?_
            refine lv_iadd hx hb dX12_join_54 ?_
            refine lv_topi (fun f_281 ef_281 => ?_)
            obtain rfl : (1 : Int32) = f_281 := (ef_281.trans (by decide)).symm
            refine lv_istore (lv' := [(6, .int 1), (5, .int 1), (0, .ref h0), (1, .int 4), (2, .int (-1)), (3, .int p2), (4, .int p3)]) hx hb dX12_join_55 hl (by decide) rfl (fun ls hl => ?_)
            refine lv_iload_n hx hb dX12_join_57 rfl (lv_at hl 3 rfl) ?_
            refine lv_i2l (v := 4) hx hb dX12_join_58 (by decide) ?_
            refine lv_lconst (v := 1) hx hb dX12_join_59 (by decide) ?_
            refine lv_ldc2 (v := 4) hx hb hown (hts (.constantLong RX12 472 (4)) (List.mem_of_getElem? (i := 1) rfl)) dX12_join_60 ?_
            refine vp_callSi (va_Run.run (va_runS (As := [.long 4, .long 1, .long 4]) (rest := []) ⟨hx, hb, hml, hown, hts⟩ (c_X12_in l 4 1 4) (va_cwS 3 hts gq_X12_join_X12_in_372 rfl rfl rfl (by decide +kernel) ⟨Nat.le_of_ble_eq_true rfl, Nat.le_of_ble_eq_true rfl⟩) ⟨fun a U g mk q => q, fun U hU hW => ⟨rfl, trivial⟩⟩ rfl rfl hl.1 rfl (lv_room (Nat.le_of_ble_eq_true rfl)) dX12_join_63 ⟨Nat.le_of_ble_eq_true rfl, Nat.le_of_ble_eq_true rfl⟩)) (fun r_282 hr_282 => ?_)
            rcases hr_282 with ⟨rfl, hlo_283, hhi_283⟩ | ⟨rfl, hno_283⟩
            · refine lv_if_eq (tgt := 119) hx hb dX12_join_66 (by decide) (fun c_284 => absurd c_284 (by decide)) (fun _ => ?_)
              refine lv_iload_n hx hb dX12_join_69 rfl (lv_at hl 4 rfl) ?_
              refine lv_iconst (v := (-1)) hx hb dX12_join_70 (by decide) ?_
              refine lv_icmp_eq (tgt := 82) hx hb dX12_join_71 (by decide) (fun _ => ?_) (fun c_285 => absurd (by decide) c_285)
              refine lv_iload_n hx hb dX12_join_82 rfl (lv_at hl 5 rfl) ?_
              refine lv_iconst (v := (-1)) hx hb dX12_join_83 (by decide) ?_
              refine lv_icmp_eq (tgt := 95) hx hb dX12_join_84 (by decide) (fun c_286 => absurd c_286 c_277) (fun _ => ?_)
              refine lv_aload_n hx hb dX12_join_87 rfl (lv_at hl 2 rfl) ?_
              refine lv_iload_n hx hb dX12_join_88 rfl (lv_at hl 5 rfl) ?_
              have hPc := hP.sub (ws' := [(h0, .inr (12, (fsM g)))]) [0] rfl
              have hDc := hD.sub (ws' := [(h0, .inr (12, (fsM g)))]) [0] (by decide) rfl
              have hKc := hK
              refine vp_callSi (va_Run.run (va_runV (As := [.int p2]) (rest := []) ⟨hx, hb, hml, hown, hts⟩ (c_X12_isVolume l dC dI cI cB cZ cJ cC cP cV cT cO s.heap.size h0 g p2) (cwV 1 hts gq_X12_join_X12_isVolume_474 rfl rfl rfl (by decide +kernel) ⟨Nat.le_of_ble_eq_true rfl, Nat.le_of_ble_eq_true rfl⟩) ⟨fun a U g mk q => by obtain ⟨q0, q1, qP, qK, qD⟩ := q; exact ⟨q0, q1, qP, va_K.moved (u := U) (U := U.calling g mk a) (Vm.Alike.refl U.vm) qK, qD⟩, va_recv hKc hPc (ci := 12) (q0 := 0) rfl rfl, fun U hU hW => ⟨rfl, by rw [hU], by rw [hU]; exact hPc, va_K.moved hW.alike hKc, hDc.weaken (fun _ _ _ _ => trivial)⟩⟩ rfl rfl hl.1 rfl (lv_room (Nat.le_of_ble_eq_true rfl)) dX12_join_89 ⟨Nat.le_of_ble_eq_true rfl, Nat.le_of_ble_eq_true rfl⟩)) (fun r_287 hr_287 => ?_)
              obtain rfl : r_287 = 0 := hr_287
              refine lv_if_eq (tgt := 119) hx hb dX12_join_92 (by decide) (fun _ => ?_) (fun c_288 => absurd (by decide) c_288)
              refine lv_iconst (v := 0) hx hb dX12_join_119 (by decide) ?_
              refine lv_istore (lv' := [(7, .int 0), (6, .int 1), (5, .int 1), (0, .ref h0), (1, .int 4), (2, .int (-1)), (3, .int p2), (4, .int p3)]) hx hb dX12_join_120 hl (by decide) rfl (fun ls hl => ?_)
              refine lv_iload_n hx hb dX12_join_122 rfl (lv_at hl 5 rfl) ?_
              refine lv_if_lt (tgt := 137) hx hb dX12_join_123 (by decide) (fun _ => ?_) (fun c_289 => absurd (by decide) c_289)
              refine lv_iload_n hx hb dX12_join_137 rfl (lv_at hl 6 rfl) ?_
              refine lv_if_lt (tgt := 151) hx hb dX12_join_138 (by decide) (fun c_290 => ?_) (fun c_290 => ?_)
              · refine lv_iconst (v := 0) hx hb dX12_join_151 (by decide) ?_
                refine lv_istore (lv' := [(8, .int 0), (7, .int 0), (6, .int 1), (5, .int 1), (0, .ref h0), (1, .int 4), (2, .int (-1)), (3, .int p2), (4, .int p3)]) hx hb dX12_join_152 hl (by decide) rfl (fun ls hl => ?_)
                refine lv_iload hx hb dX12_join_154 (lv_at hl 1 rfl) ?_
                refine lv_if_eq (tgt := 179) hx hb dX12_join_156 (by decide) (fun _ => ?_) (fun c_291 => absurd (by decide) c_291)
                refine lv_bipush (v := (-2)) hx hb dX12_join_179 (by decide) ?_
                exact W.iret (v := (-2)) hx hb hr (fun t ht hW => ⟨(-2), rfl, rfl, ht⟩) (fun _ h => by cases h) dX12_join_181
              · refine lv_iload_n hx hb dX12_join_141 rfl (lv_at hl 6 rfl) ?_
                refine lv_iload hx hb dX12_join_142 (lv_at hl 7 rfl) ?_
                refine lv_icmp_ne (tgt := 151) hx hb dX12_join_144 (by decide) (fun c_292 => ?_) (fun c_292 => ?_)
                · refine lv_iconst (v := 0) hx hb dX12_join_151 (by decide) ?_
                  refine lv_istore (lv' := [(8, .int 0), (7, .int 0), (6, .int 1), (5, .int 1), (0, .ref h0), (1, .int 4), (2, .int (-1)), (3, .int p2), (4, .int p3)]) hx hb dX12_join_152 hl (by decide) rfl (fun ls hl => ?_)
                  refine lv_iload hx hb dX12_join_154 (lv_at hl 1 rfl) ?_
                  refine lv_if_eq (tgt := 179) hx hb dX12_join_156 (by decide) (fun _ => ?_) (fun c_293 => absurd (by decide) c_293)
                  refine lv_bipush (v := (-2)) hx hb dX12_join_179 (by decide) ?_
                  exact W.iret (v := (-2)) hx hb hr (fun t ht hW => ⟨(-2), rfl, rfl, ht⟩) (fun _ h => by cases h) dX12_join_181
                · refine lv_iconst (v := 1) hx hb dX12_join_147 (by decide) ?_
                  refine lv_goto (tgt := 152) hx hb dX12_join_148 (by decide) ?_
                  refine lv_istore (lv' := [(8, .int 1), (7, .int 0), (6, .int 1), (5, .int 1), (0, .ref h0), (1, .int 4), (2, .int (-1)), (3, .int p2), (4, .int p3)]) hx hb dX12_join_152 hl (by decide) rfl (fun ls hl => ?_)
                  refine lv_iload hx hb dX12_join_154 (lv_at hl 1 rfl) ?_
                  refine lv_if_eq (tgt := 179) hx hb dX12_join_156 (by decide) (fun _ => ?_) (fun c_294 => absurd (by decide) c_294)
                  refine lv_bipush (v := (-2)) hx hb dX12_join_179 (by decide) ?_
                  exact W.iret (v := (-2)) hx hb hr (fun t ht hW => ⟨(-2), rfl, rfl, ht⟩) (fun _ h => by cases h) dX12_join_181
            · exact absurd ⟨by decide, by decide⟩ hno_283
          · obtain rfl : p3 = (-1) := c_280
            refine lv_iconst (v := 1) hx hb dX12_join_49 (by decide) ?_
            refine lv_goto (tgt := 54) hx hb dX12_join_50 (by decide) ?_
            refine lv_iadd hx hb dX12_join_54 ?_
            refine lv_topi (fun f_295 ef_295 => ?_)
            obtain rfl : (2 : Int32) = f_295 := (ef_295.trans (by decide)).symm
            refine lv_istore (lv' := [(6, .int 2), (5, .int 1), (0, .ref h0), (1, .int 4), (2, .int (-1)), (3, .int p2), (4, .int (-1))]) hx hb dX12_join_55 hl (by decide) rfl (fun ls hl => ?_)
            refine lv_iload_n hx hb dX12_join_57 rfl (lv_at hl 3 rfl) ?_
            refine lv_i2l (v := 4) hx hb dX12_join_58 (by decide) ?_
            refine lv_lconst (v := 1) hx hb dX12_join_59 (by decide) ?_
            refine lv_ldc2 (v := 4) hx hb hown (hts (.constantLong RX12 472 (4)) (List.mem_of_getElem? (i := 1) rfl)) dX12_join_60 ?_
            refine vp_callSi (va_Run.run (va_runS (As := [.long 4, .long 1, .long 4]) (rest := []) ⟨hx, hb, hml, hown, hts⟩ (c_X12_in l 4 1 4) (va_cwS 3 hts gq_X12_join_X12_in_372 rfl rfl rfl (by decide +kernel) ⟨Nat.le_of_ble_eq_true rfl, Nat.le_of_ble_eq_true rfl⟩) ⟨fun a U g mk q => q, fun U hU hW => ⟨rfl, trivial⟩⟩ rfl rfl hl.1 rfl (lv_room (Nat.le_of_ble_eq_true rfl)) dX12_join_63 ⟨Nat.le_of_ble_eq_true rfl, Nat.le_of_ble_eq_true rfl⟩)) (fun r_296 hr_296 => ?_)
            rcases hr_296 with ⟨rfl, hlo_297, hhi_297⟩ | ⟨rfl, hno_297⟩
            · refine lv_if_eq (tgt := 119) hx hb dX12_join_66 (by decide) (fun c_298 => absurd c_298 (by decide)) (fun _ => ?_)
              refine lv_iload_n hx hb dX12_join_69 rfl (lv_at hl 4 rfl) ?_
              refine lv_iconst (v := (-1)) hx hb dX12_join_70 (by decide) ?_
              refine lv_icmp_eq (tgt := 82) hx hb dX12_join_71 (by decide) (fun _ => ?_) (fun c_299 => absurd (by decide) c_299)
              refine lv_iload_n hx hb dX12_join_82 rfl (lv_at hl 5 rfl) ?_
              refine lv_iconst (v := (-1)) hx hb dX12_join_83 (by decide) ?_
              refine lv_icmp_eq (tgt := 95) hx hb dX12_join_84 (by decide) (fun c_300 => absurd c_300 c_277) (fun _ => ?_)
              refine lv_aload_n hx hb dX12_join_87 rfl (lv_at hl 2 rfl) ?_
              refine lv_iload_n hx hb dX12_join_88 rfl (lv_at hl 5 rfl) ?_
              have hPc := hP.sub (ws' := [(h0, .inr (12, (fsM g)))]) [0] rfl
              have hDc := hD.sub (ws' := [(h0, .inr (12, (fsM g)))]) [0] (by decide) rfl
              have hKc := hK
              refine vp_callSi (va_Run.run (va_runV (As := [.int p2]) (rest := []) ⟨hx, hb, hml, hown, hts⟩ (c_X12_isVolume l dC dI cI cB cZ cJ cC cP cV cT cO s.heap.size h0 g p2) (cwV 1 hts gq_X12_join_X12_isVolume_474 rfl rfl rfl (by decide +kernel) ⟨Nat.le_of_ble_eq_true rfl, Nat.le_of_ble_eq_true rfl⟩) ⟨fun a U g mk q => by obtain ⟨q0, q1, qP, qK, qD⟩ := q; exact ⟨q0, q1, qP, va_K.moved (u := U) (U := U.calling g mk a) (Vm.Alike.refl U.vm) qK, qD⟩, va_recv hKc hPc (ci := 12) (q0 := 0) rfl rfl, fun U hU hW => ⟨rfl, by rw [hU], by rw [hU]; exact hPc, va_K.moved hW.alike hKc, hDc.weaken (fun _ _ _ _ => trivial)⟩⟩ rfl rfl hl.1 rfl (lv_room (Nat.le_of_ble_eq_true rfl)) dX12_join_89 ⟨Nat.le_of_ble_eq_true rfl, Nat.le_of_ble_eq_true rfl⟩)) (fun r_301 hr_301 => ?_)
              obtain rfl : r_301 = 0 := hr_301
              refine lv_if_eq (tgt := 119) hx hb dX12_join_92 (by decide) (fun _ => ?_) (fun c_302 => absurd (by decide) c_302)
              refine lv_iconst (v := 0) hx hb dX12_join_119 (by decide) ?_
              refine lv_istore (lv' := [(7, .int 0), (6, .int 2), (5, .int 1), (0, .ref h0), (1, .int 4), (2, .int (-1)), (3, .int p2), (4, .int (-1))]) hx hb dX12_join_120 hl (by decide) rfl (fun ls hl => ?_)
              refine lv_iload_n hx hb dX12_join_122 rfl (lv_at hl 5 rfl) ?_
              refine lv_if_lt (tgt := 137) hx hb dX12_join_123 (by decide) (fun _ => ?_) (fun c_303 => absurd (by decide) c_303)
              refine lv_iload_n hx hb dX12_join_137 rfl (lv_at hl 6 rfl) ?_
              refine lv_if_lt (tgt := 151) hx hb dX12_join_138 (by decide) (fun c_304 => ?_) (fun c_304 => ?_)
              · refine lv_iconst (v := 0) hx hb dX12_join_151 (by decide) ?_
                refine lv_istore (lv' := [(8, .int 0), (7, .int 0), (6, .int 2), (5, .int 1), (0, .ref h0), (1, .int 4), (2, .int (-1)), (3, .int p2), (4, .int (-1))]) hx hb dX12_join_152 hl (by decide) rfl (fun ls hl => ?_)
                refine lv_iload hx hb dX12_join_154 (lv_at hl 1 rfl) ?_
                refine lv_if_eq (tgt := 179) hx hb dX12_join_156 (by decide) (fun _ => ?_) (fun c_305 => absurd (by decide) c_305)
                refine lv_bipush (v := (-2)) hx hb dX12_join_179 (by decide) ?_
                exact W.iret (v := (-2)) hx hb hr (fun t ht hW => ⟨(-2), rfl, rfl, ht⟩) (fun _ h => by cases h) dX12_join_181
              · refine lv_iload_n hx hb dX12_join_141 rfl (lv_at hl 6 rfl) ?_
                refine lv_iload hx hb dX12_join_142 (lv_at hl 7 rfl) ?_
                refine lv_icmp_ne (tgt := 151) hx hb dX12_join_144 (by decide) (fun _ => ?_) (fun c_306 => absurd c_306 c_277)
                refine lv_iconst (v := 0) hx hb dX12_join_151 (by decide) ?_
                refine lv_istore (lv' := [(8, .int 0), (7, .int 0), (6, .int 2), (5, .int 1), (0, .ref h0), (1, .int 4), (2, .int (-1)), (3, .int p2), (4, .int (-1))]) hx hb dX12_join_152 hl (by decide) rfl (fun ls hl => ?_)
                refine lv_iload hx hb dX12_join_154 (lv_at hl 1 rfl) ?_
                refine lv_if_eq (tgt := 179) hx hb dX12_join_156 (by decide) (fun _ => ?_) (fun c_307 => absurd (by decide) c_307)
                refine lv_bipush (v := (-2)) hx hb dX12_join_179 (by decide) ?_
                exact W.iret (v := (-2)) hx hb hr (fun t ht hW => ⟨(-2), rfl, rfl, ht⟩) (fun _ h => by cases h) dX12_join_181
            · exact absurd ⟨by decide, by decide⟩ hno_297
        · obtain rfl : p2 = (-1) := c_277
          refine lv_iconst (v := 1) hx hb dX12_join_32 (by decide) ?_
          refine lv_goto (tgt := 37) hx hb dX12_join_33 (by decide) ?_
          refine lv_iadd hx hb dX12_join_37 ?_
          refine lv_topi (fun f_308 ef_308 => ?_)
          obtain rfl : (2 : Int32) = f_308 := (ef_308.trans (by decide)).symm
          refine lv_iload_n hx hb dX12_join_38 rfl (lv_at hl 2 rfl) ?_
          refine lv_iconst (v := 4) hx hb dX12_join_39 (by decide) ?_
          refine lv_icmp_ne (tgt := 53) hx hb dX12_join_40 (by decide) (fun c_309 => absurd (by decide) c_309) (fun _ => ?_)
          refine lv_iload hx hb dX12_join_43 (lv_at hl 5 rfl) ?_
          refine lv_iconst (v := (-1)) hx hb dX12_join_45 (by decide) ?_
          refine lv_icmp_ne (tgt := 53) hx hb dX12_join_46 (by decide) (fun c_310 => ?_) (fun c_310 => ?_)
          · refine lv_iconst (v := 0) hx hb dX12_join_53 (by decide) ?_
            refine lv_iadd hx hb dX12_join_54 ?_
            refine lv_topi (fun f_311 ef_311 => ?_)
            obtain rfl : (2 : Int32) = f_311 := (ef_311.trans (by decide)).symm
            refine lv_istore (lv' := [(6, .int 2), (5, .int 1), (0, .ref h0), (1, .int 4), (2, .int (-1)), (3, .int (-1)), (4, .int p3)]) hx hb dX12_join_55 hl (by decide) rfl (fun ls hl => ?_)
            refine lv_iload_n hx hb dX12_join_57 rfl (lv_at hl 3 rfl) ?_
            refine lv_i2l (v := 4) hx hb dX12_join_58 (by decide) ?_
            refine lv_lconst (v := 1) hx hb dX12_join_59 (by decide) ?_
            refine lv_ldc2 (v := 4) hx hb hown (hts (.constantLong RX12 472 (4)) (List.mem_of_getElem? (i := 1) rfl)) dX12_join_60 ?_
            refine vp_callSi (va_Run.run (va_runS (As := [.long 4, .long 1, .long 4]) (rest := []) ⟨hx, hb, hml, hown, hts⟩ (c_X12_in l 4 1 4) (va_cwS 3 hts gq_X12_join_X12_in_372 rfl rfl rfl (by decide +kernel) ⟨Nat.le_of_ble_eq_true rfl, Nat.le_of_ble_eq_true rfl⟩) ⟨fun a U g mk q => q, fun U hU hW => ⟨rfl, trivial⟩⟩ rfl rfl hl.1 rfl (lv_room (Nat.le_of_ble_eq_true rfl)) dX12_join_63 ⟨Nat.le_of_ble_eq_true rfl, Nat.le_of_ble_eq_true rfl⟩)) (fun r_312 hr_312 => ?_)
            rcases hr_312 with ⟨rfl, hlo_313, hhi_313⟩ | ⟨rfl, hno_313⟩
            · refine lv_if_eq (tgt := 119) hx hb dX12_join_66 (by decide) (fun c_314 => absurd c_314 (by decide)) (fun _ => ?_)
              refine lv_iload_n hx hb dX12_join_69 rfl (lv_at hl 4 rfl) ?_
              refine lv_iconst (v := (-1)) hx hb dX12_join_70 (by decide) ?_
              refine lv_icmp_eq (tgt := 82) hx hb dX12_join_71 (by decide) (fun _ => ?_) (fun c_315 => absurd (by decide) c_315)
              refine lv_iload_n hx hb dX12_join_82 rfl (lv_at hl 5 rfl) ?_
              refine lv_iconst (v := (-1)) hx hb dX12_join_83 (by decide) ?_
              refine lv_icmp_eq (tgt := 95) hx hb dX12_join_84 (by decide) (fun _ => ?_) (fun c_316 => absurd (by decide) c_316)
              refine lv_iload hx hb dX12_join_95 (lv_at hl 6 rfl) ?_
              refine lv_iconst (v := (-1)) hx hb dX12_join_97 (by decide) ?_
              refine lv_icmp_eq (tgt := 115) hx hb dX12_join_98 (by decide) (fun c_317 => absurd c_317 c_310) (fun _ => ?_)
              refine lv_aload_n hx hb dX12_join_101 rfl (lv_at hl 2 rfl) ?_
              refine lv_iload hx hb dX12_join_102 (lv_at hl 6 rfl) ?_
              have hPc := hP.sub (ws' := [(h0, .inr (12, (fsM g)))]) [0] rfl
              have hDc := hD.sub (ws' := [(h0, .inr (12, (fsM g)))]) [0] (by decide) rfl
              have hKc := hK
              refine vp_callSi (va_Run.run (va_runV (As := [.int p3]) (rest := []) ⟨hx, hb, hml, hown, hts⟩ (c_X12_isVolume l dC dI cI cB cZ cJ cC cP cV cT cO s.heap.size h0 g p3) (cwV 1 hts gq_X12_join_X12_isVolume_474 rfl rfl rfl (by decide +kernel) ⟨Nat.le_of_ble_eq_true rfl, Nat.le_of_ble_eq_true rfl⟩) ⟨fun a U g mk q => by obtain ⟨q0, q1, qP, qK, qD⟩ := q; exact ⟨q0, q1, qP, va_K.moved (u := U) (U := U.calling g mk a) (Vm.Alike.refl U.vm) qK, qD⟩, va_recv hKc hPc (ci := 12) (q0 := 0) rfl rfl, fun U hU hW => ⟨rfl, by rw [hU], by rw [hU]; exact hPc, va_K.moved hW.alike hKc, hDc.weaken (fun _ _ _ _ => trivial)⟩⟩ rfl rfl hl.1 rfl (lv_room (Nat.le_of_ble_eq_true rfl)) dX12_join_104 ⟨Nat.le_of_ble_eq_true rfl, Nat.le_of_ble_eq_true rfl⟩)) (fun r_318 hr_318 => ?_)
              obtain rfl : r_318 = 0 := hr_318
              refine lv_if_eq (tgt := 119) hx hb dX12_join_107 (by decide) (fun _ => ?_) (fun c_319 => absurd (by decide) c_319)
              refine lv_iconst (v := 0) hx hb dX12_join_119 (by decide) ?_
              refine lv_istore (lv' := [(7, .int 0), (6, .int 2), (5, .int 1), (0, .ref h0), (1, .int 4), (2, .int (-1)), (3, .int (-1)), (4, .int p3)]) hx hb dX12_join_120 hl (by decide) rfl (fun ls hl => ?_)
              refine lv_iload_n hx hb dX12_join_122 rfl (lv_at hl 5 rfl) ?_
              refine lv_if_lt (tgt := 137) hx hb dX12_join_123 (by decide) (fun _ => ?_) (fun c_320 => absurd (by decide) c_320)
              refine lv_iload_n hx hb dX12_join_137 rfl (lv_at hl 6 rfl) ?_
              refine lv_if_lt (tgt := 151) hx hb dX12_join_138 (by decide) (fun _ => ?_) (fun c_321 => absurd (by decide) c_321)
              refine lv_iconst (v := 0) hx hb dX12_join_151 (by decide) ?_
              refine lv_istore (lv' := [(8, .int 0), (7, .int 0), (6, .int 2), (5, .int 1), (0, .ref h0), (1, .int 4), (2, .int (-1)), (3, .int (-1)), (4, .int p3)]) hx hb dX12_join_152 hl (by decide) rfl (fun ls hl => ?_)
              refine lv_iload hx hb dX12_join_154 (lv_at hl 1 rfl) ?_
              refine lv_if_eq (tgt := 179) hx hb dX12_join_156 (by decide) (fun _ => ?_) (fun c_322 => absurd (by decide) c_322)
              refine lv_bipush (v := (-2)) hx hb dX12_join_179 (by decide) ?_
              exact W.iret (v := (-2)) hx hb hr (fun t ht hW => ⟨(-2), rfl, rfl, ht⟩) (fun _ h => by cases h) dX12_join_181
            · exact absurd ⟨by decide, by decide⟩ hno_313
          · obtain rfl : p3 = (-1) := c_310
            refine lv_iconst (v := 1) hx hb dX12_join_49 (by decide) ?_
            refine lv_goto (tgt := 54) hx hb dX12_join_50 (by decide) ?_
            refine lv_iadd hx hb dX12_join_54 ?_
            refine lv_topi (fun f_323 ef_323 => ?_)
            obtain rfl : (3 : Int32) = f_323 := (ef_323.trans (by decide)).symm
            refine lv_istore (lv' := [(6, .int 3), (5, .int 1), (0, .ref h0), (1, .int 4), (2, .int (-1)), (3, .int (-1)), (4, .int (-1))]) hx hb dX12_join_55 hl (by decide) rfl (fun ls hl => ?_)
            refine lv_iload_n hx hb dX12_join_57 rfl (lv_at hl 3 rfl) ?_
            refine lv_i2l (v := 4) hx hb dX12_join_58 (by decide) ?_
            refine lv_lconst (v := 1) hx hb dX12_join_59 (by decide) ?_
            refine lv_ldc2 (v := 4) hx hb hown (hts (.constantLong RX12 472 (4)) (List.mem_of_getElem? (i := 1) rfl)) dX12_join_60 ?_
            refine vp_callSi (va_Run.run (va_runS (As := [.long 4, .long 1, .long 4]) (rest := []) ⟨hx, hb, hml, hown, hts⟩ (c_X12_in l 4 1 4) (va_cwS 3 hts gq_X12_join_X12_in_372 rfl rfl rfl (by decide +kernel) ⟨Nat.le_of_ble_eq_true rfl, Nat.le_of_ble_eq_true rfl⟩) ⟨fun a U g mk q => q, fun U hU hW => ⟨rfl, trivial⟩⟩ rfl rfl hl.1 rfl (lv_room (Nat.le_of_ble_eq_true rfl)) dX12_join_63 ⟨Nat.le_of_ble_eq_true rfl, Nat.le_of_ble_eq_true rfl⟩)) (fun r_324 hr_324 => ?_)
            rcases hr_324 with ⟨rfl, hlo_325, hhi_325⟩ | ⟨rfl, hno_325⟩
            · refine lv_if_eq (tgt := 119) hx hb dX12_join_66 (by decide) (fun c_326 => absurd c_326 (by decide)) (fun _ => ?_)
              refine lv_iload_n hx hb dX12_join_69 rfl (lv_at hl 4 rfl) ?_
              refine lv_iconst (v := (-1)) hx hb dX12_join_70 (by decide) ?_
              refine lv_icmp_eq (tgt := 82) hx hb dX12_join_71 (by decide) (fun _ => ?_) (fun c_327 => absurd (by decide) c_327)
              refine lv_iload_n hx hb dX12_join_82 rfl (lv_at hl 5 rfl) ?_
              refine lv_iconst (v := (-1)) hx hb dX12_join_83 (by decide) ?_
              refine lv_icmp_eq (tgt := 95) hx hb dX12_join_84 (by decide) (fun _ => ?_) (fun c_328 => absurd (by decide) c_328)
              refine lv_iload hx hb dX12_join_95 (lv_at hl 6 rfl) ?_
              refine lv_iconst (v := (-1)) hx hb dX12_join_97 (by decide) ?_
              refine lv_icmp_eq (tgt := 115) hx hb dX12_join_98 (by decide) (fun _ => ?_) (fun c_329 => absurd (by decide) c_329)
              refine lv_iconst (v := 1) hx hb dX12_join_115 (by decide) ?_
              refine lv_goto (tgt := 120) hx hb dX12_join_116 (by decide) ?_
              refine lv_istore (lv' := [(7, .int 1), (6, .int 3), (5, .int 1), (0, .ref h0), (1, .int 4), (2, .int (-1)), (3, .int (-1)), (4, .int (-1))]) hx hb dX12_join_120 hl (by decide) rfl (fun ls hl => ?_)
              refine lv_iload_n hx hb dX12_join_122 rfl (lv_at hl 5 rfl) ?_
              refine lv_if_lt (tgt := 137) hx hb dX12_join_123 (by decide) (fun _ => ?_) (fun c_330 => absurd (by decide) c_330)
              refine lv_iload_n hx hb dX12_join_137 rfl (lv_at hl 6 rfl) ?_
              refine lv_if_lt (tgt := 151) hx hb dX12_join_138 (by decide) (fun _ => ?_) (fun c_331 => absurd (by decide) c_331)
              refine lv_iconst (v := 0) hx hb dX12_join_151 (by decide) ?_
              refine lv_istore (lv' := [(8, .int 0), (7, .int 1), (6, .int 3), (5, .int 1), (0, .ref h0), (1, .int 4), (2, .int (-1)), (3, .int (-1)), (4, .int (-1))]) hx hb dX12_join_152 hl (by decide) rfl (fun ls hl => ?_)
              refine lv_iload hx hb dX12_join_154 (lv_at hl 1 rfl) ?_
              refine lv_if_eq (tgt := 179) hx hb dX12_join_156 (by decide) (fun c_332 => absurd c_332 (by decide)) (fun _ => ?_)
              refine lv_iload hx hb dX12_join_159 (lv_at hl 0 rfl) ?_
              refine lv_if_ne (tgt := 179) hx hb dX12_join_161 (by decide) (fun c_333 => absurd (by decide) c_333) (fun _ => ?_)
              refine lv_iload hx hb dX12_join_164 (lv_at hl 2 rfl) ?_
              refine lv_iload hx hb dX12_join_166 (lv_at hl 3 rfl) ?_
              refine lv_if_eq (tgt := 175) hx hb dX12_join_168 (by decide) (fun c_334 => absurd c_334 (by decide)) (fun _ => ?_)
              refine lv_iconst (v := 1) hx hb dX12_join_171 (by decide) ?_
              refine lv_goto (tgt := 176) hx hb dX12_join_172 (by decide) ?_
              refine lv_icmp_le (tgt := 182) hx hb dX12_join_176 (by decide) (fun c_335 => absurd c_335 (by decide)) (fun _ => ?_)
              refine lv_bipush (v := (-2)) hx hb dX12_join_179 (by decide) ?_
              exact W.iret (v := (-2)) hx hb hr (fun t ht hW => ⟨(-2), rfl, rfl, ht⟩) (fun _ h => by cases h) dX12_join_181
            · exact absurd ⟨by decide, by decide⟩ hno_325
def dq_X11_hit : List Cond := [.fieldLink RX11 51 "DiskEvidence" "finder" "LDiskEvidence$Finder;", .fieldLink RX11 338 "DiskEvidence$Finder" "hitCount" "I"]
def wq_X11_hit : List Cond := .code yX11_hit cX11_hit 3 (some .int) :: (dq_X11_hit ++ (wsX110 ++ (wsX00)))
theorem inq_X11_hit_c11 : ∀ w ∈ wsX110, w ∈ wq_X11_hit := fun w h => List.mem_cons_of_mem _ (List.mem_append_right _ (List.mem_append_left _ h))
theorem inq_X11_hit_c0 : ∀ w ∈ wsX00, w ∈ wq_X11_hit := fun w h => List.mem_cons_of_mem _ (List.mem_append_right _ (List.mem_append_right _ (h)))
theorem ga_X11_hit : wq_X11_hit.all goodWord = true := by decide +kernel
theorem tdq_X11_hit : ∀ w ∈ dq_X11_hit, w ∈ lw_tbl := fun w h => (goodIn_r (big := lw_tbl) dq_X11_hit [600, 488] (by decide +kernel) (by decide +kernel) w h).1
theorem tq_X11_hit : ∀ w ∈ wq_X11_hit, w ∈ lw_tbl := fun w h => (List.mem_cons.mp h).elim (fun e => by rw [e]; exact List.mem_of_getElem? (i := 1974) (by decide +kernel)) (fun h => (List.mem_append.mp h).elim (fun h => tdq_X11_hit w h) (fun h => (List.mem_append.mp h).elim (fun h => nX11 w h) (fun h => nX0 w h)))
set_option maxHeartbeats 40000000 in
set_option maxRecDepth 100000 in
theorem c_X11_hit (l : Launch) (dC : Nat → ClassId) (dI : Nat → Nat → Nat) (cI cB cZ cJ cC cP cV cT cO : ClassId) (sz : Nat) (h0 : Nat) (g : Nat → Nat) (tf : Nat → Nat) (p0 : Int32) (p1 : Int32) : Met l yX11_hit wq_X11_hit ({ frames := 0, cells := 0, slots := 0, locals := 0 }) (va_Pc [.ref h0, .int p0, .int p1] (fun U => U.heap.size = sz ∧ va_P (dC, dI) vwCl [(h0, .inr (11, (fsX g))), ((g 14), .inr (0, (fs0 tf)))] U.heap ∧ va_K (dC, dI) vwCl [(cI, .int), (cB, .byte), (cZ, .boolean), (cJ, .long), (cC, .char), (cP, .object "DiskEvidence$Picture"), (cV, .object "DiskEvidence$Volume"), (cT, .object "DiskEvidence$Tree"), (cO, .object "DiskEvidence$Opening")] U ∧ va_D (fun _ => True) [(h0, .inr (11, (fsX g))), ((g 14), .inr (0, (fs0 tf)))])) (vp_Si (fun r : Int32 => r = (-2))) 0 0 (fun _ => False) := by
  refine Met.ofW (cc := cX11_hit) (maxL := 3) (ret := (some .int)) (by decide) rfl ?_
  intro p e s m args below meth c s₁ B hml hv
  obtain ⟨rfl, hsz, hP, hK, hD0⟩ := hv
  have hx := B.exec
  have hb := B.bytes
  have hr := B.returns
  have hts := atoms_spec (ws := wq_X11_hit) B.pre
  have hown : s.vm.findClass RX11 = some m.cls := findClass_of_methodNamed B.named
  have hlocks := B.notSynchronized
  subst hsz
  have hD := hD0.self (sz := s.heap.size)
  generalize hAe : va_A [(h0, .inr (11, (fsX g))), ((g 14), .inr (0, (fs0 tf)))] s.heap.size = A at hD ⊢
  have hA : ∀ q : Nat, s.heap.size ≤ q → A q := fun q h => by rw [← hAe]; exact Or.inr h
  have hS : va_S A s.heap s.heap [] := va_S.rf
  have hl := lv_entry ([.ref h0, .int p0, .int p1]) (n := 3) (Nat.le_of_ble_eq_true rfl)
  rw [lg_entry_eq]
  generalize (lg_sl ([.ref h0, .int p0, .int p1]) ++ List.replicate (3 - (lg_sl ([.ref h0, .int p0, .int p1])).length) Slot.unset).toArray = ls at hl ⊢
  have hl : lv_has ls 3 [(0, .ref h0), (1, .int p0), (2, .int p1)] := hl
  refine lv_iload_n hx hb dX11_hit_0 rfl (lv_at hl 1 rfl) ?_
  refine lv_if_lt (tgt := 24) hx hb dX11_hit_1 (by decide) (fun c_1 => ?_) (fun c_1 => ?_)
  · refine lv_bipush (v := (-2)) hx hb dX11_hit_24 (by decide) ?_
    exact W.iret (v := (-2)) hx hb hr (fun t ht hW => ⟨(-2), rfl, rfl, ht⟩) (fun _ h => by cases h) dX11_hit_26
  · refine lv_iload_n hx hb dX11_hit_4 rfl (lv_at hl 1 rfl) ?_
    refine lv_aload_n hx hb dX11_hit_5 rfl (lv_at hl 0 rfl) ?_
    refine va_get (D := (dC, dI)) (ci := 11) (v := .ref (g 14)) (C := RX11) (T := TX11) (N := 20) hx hb hts inq_X11_hit_c11 hown hK hP 0 rfl rfl 14 (by decide) (hts (.fieldLink RX11 51 "DiskEvidence" "finder" "LDiskEvidence$Finder;") (List.mem_of_getElem? (i := 1) rfl)) (fun _ h9 => h9) rfl dX11_hit_6 ?_
    refine va_get (D := (dC, dI)) (ci := 0) (v := .int 0) (C := RX0) (T := TX0) (N := 10) hx hb hts inq_X11_hit_c0 hown hK hP 1 rfl rfl 1 (by decide) (hts (.fieldLink RX11 338 "DiskEvidence$Finder" "hitCount" "I") (List.mem_of_getElem? (i := 2) rfl)) (fun _ h9 => h9) rfl dX11_hit_9 ?_
    refine lv_icmp_ge (tgt := 24) hx hb dX11_hit_12 (by decide) (fun _ => ?_) (fun c_2 => absurd (Int32.not_lt.mp c_1) c_2)
    refine lv_bipush (v := (-2)) hx hb dX11_hit_24 (by decide) ?_
    exact W.iret (v := (-2)) hx hb hr (fun t ht hW => ⟨(-2), rfl, rfl, ht⟩) (fun _ h => by cases h) dX11_hit_26
def dq_X11_row : List Cond := [.fieldLink RX11 58 "DiskEvidence" "query" "LDiskEvidence$Query;", .fieldLink RX11 348 "DiskEvidence$Query" "rowCount" "I"]
def wq_X11_row : List Cond := .code yX11_row cX11_row 2 (some .int) :: (dq_X11_row ++ (wsX110 ++ (wsX60)))
theorem inq_X11_row_c11 : ∀ w ∈ wsX110, w ∈ wq_X11_row := fun w h => List.mem_cons_of_mem _ (List.mem_append_right _ (List.mem_append_left _ h))
theorem inq_X11_row_c6 : ∀ w ∈ wsX60, w ∈ wq_X11_row := fun w h => List.mem_cons_of_mem _ (List.mem_append_right _ (List.mem_append_right _ (h)))
theorem ga_X11_row : wq_X11_row.all goodWord = true := by decide +kernel
theorem tdq_X11_row : ∀ w ∈ dq_X11_row, w ∈ lw_tbl := fun w h => (goodIn_r (big := lw_tbl) dq_X11_row [601, 528] (by decide +kernel) (by decide +kernel) w h).1
theorem tq_X11_row : ∀ w ∈ wq_X11_row, w ∈ lw_tbl := fun w h => (List.mem_cons.mp h).elim (fun e => by rw [e]; exact List.mem_of_getElem? (i := 2126) (by decide +kernel)) (fun h => (List.mem_append.mp h).elim (fun h => tdq_X11_row w h) (fun h => (List.mem_append.mp h).elim (fun h => nX11 w h) (fun h => nX6 w h)))
set_option maxHeartbeats 40000000 in
set_option maxRecDepth 100000 in
theorem c_X11_row (l : Launch) (dC : Nat → ClassId) (dI : Nat → Nat → Nat) (cI cB cZ cJ cC cP cV cT cO : ClassId) (sz : Nat) (h0 : Nat) (g : Nat → Nat) (tq : Nat → Nat) (p0 : Int32) : Met l yX11_row wq_X11_row ({ frames := 0, cells := 0, slots := 0, locals := 0 }) (va_Pc [.ref h0, .int p0] (fun U => U.heap.size = sz ∧ va_P (dC, dI) vwCl [(h0, .inr (11, (fsX g))), ((g 15), .inr (6, (fs6 tq)))] U.heap ∧ va_K (dC, dI) vwCl [(cI, .int), (cB, .byte), (cZ, .boolean), (cJ, .long), (cC, .char), (cP, .object "DiskEvidence$Picture"), (cV, .object "DiskEvidence$Volume"), (cT, .object "DiskEvidence$Tree"), (cO, .object "DiskEvidence$Opening")] U ∧ va_D (fun _ => True) [(h0, .inr (11, (fsX g))), ((g 15), .inr (6, (fs6 tq)))])) (vp_Si (fun r : Int32 => r = (-2))) 0 0 (fun _ => False) := by
  refine Met.ofW (cc := cX11_row) (maxL := 2) (ret := (some .int)) (by decide) rfl ?_
  intro p e s m args below meth c s₁ B hml hv
  obtain ⟨rfl, hsz, hP, hK, hD0⟩ := hv
  have hx := B.exec
  have hb := B.bytes
  have hr := B.returns
  have hts := atoms_spec (ws := wq_X11_row) B.pre
  have hown : s.vm.findClass RX11 = some m.cls := findClass_of_methodNamed B.named
  have hlocks := B.notSynchronized
  subst hsz
  have hD := hD0.self (sz := s.heap.size)
  generalize hAe : va_A [(h0, .inr (11, (fsX g))), ((g 15), .inr (6, (fs6 tq)))] s.heap.size = A at hD ⊢
  have hA : ∀ q : Nat, s.heap.size ≤ q → A q := fun q h => by rw [← hAe]; exact Or.inr h
  have hS : va_S A s.heap s.heap [] := va_S.rf
  have hl := lv_entry ([.ref h0, .int p0]) (n := 2) (Nat.le_of_ble_eq_true rfl)
  rw [lg_entry_eq]
  generalize (lg_sl ([.ref h0, .int p0]) ++ List.replicate (2 - (lg_sl ([.ref h0, .int p0])).length) Slot.unset).toArray = ls at hl ⊢
  have hl : lv_has ls 2 [(0, .ref h0), (1, .int p0)] := hl
  refine lv_iload_n hx hb dX11_row_0 rfl (lv_at hl 1 rfl) ?_
  refine lv_if_lt (tgt := 15) hx hb dX11_row_1 (by decide) (fun c_1 => ?_) (fun c_1 => ?_)
  · refine lv_bipush (v := (-2)) hx hb dX11_row_15 (by decide) ?_
    refine lv_goto (tgt := 29) hx hb dX11_row_17 (by decide) ?_
    exact W.iret (v := (-2)) hx hb hr (fun t ht hW => ⟨(-2), rfl, rfl, ht⟩) (fun _ h => by cases h) dX11_row_29
  · refine lv_iload_n hx hb dX11_row_4 rfl (lv_at hl 1 rfl) ?_
    refine lv_aload_n hx hb dX11_row_5 rfl (lv_at hl 0 rfl) ?_
    refine va_get (D := (dC, dI)) (ci := 11) (v := .ref (g 15)) (C := RX11) (T := TX11) (N := 20) hx hb hts inq_X11_row_c11 hown hK hP 0 rfl rfl 15 (by decide) (hts (.fieldLink RX11 58 "DiskEvidence" "query" "LDiskEvidence$Query;") (List.mem_of_getElem? (i := 1) rfl)) (fun _ h9 => h9) rfl dX11_row_6 ?_
    refine va_get (D := (dC, dI)) (ci := 6) (v := .int 0) (C := RX6) (T := TX6) (N := 11) hx hb hts inq_X11_row_c6 hown hK hP 1 rfl rfl 1 (by decide) (hts (.fieldLink RX11 348 "DiskEvidence$Query" "rowCount" "I") (List.mem_of_getElem? (i := 2) rfl)) (fun _ h9 => h9) rfl dX11_row_9 ?_
    refine lv_icmp_lt (tgt := 20) hx hb dX11_row_12 (by decide) (fun c_2 => absurd c_2 c_1) (fun _ => ?_)
    refine lv_bipush (v := (-2)) hx hb dX11_row_15 (by decide) ?_
    refine lv_goto (tgt := 29) hx hb dX11_row_17 (by decide) ?_
    exact W.iret (v := (-2)) hx hb hr (fun t ht hW => ⟨(-2), rfl, rfl, ht⟩) (fun _ h => by cases h) dX11_row_29
def dq_X12_hit : List Cond := [.fieldLink RX12 1023 "DiskEvidenceModel" "hits" "I", .methodLink RX12 372 yX12_in, .static yX12_in, .initialized RX12]
def wq_X12_hit : List Cond := .code yX12_hit cX12_hit 3 (some .int) :: (dq_X12_hit ++ (wsX120 ++ (wq_X12_in)))
theorem inq_X12_hit_c12 : ∀ w ∈ wsX120, w ∈ wq_X12_hit := fun w h => List.mem_cons_of_mem _ (List.mem_append_right _ (List.mem_append_left _ h))
theorem mq_X12_hit_X12_in : ∀ w ∈ wq_X12_in, w ∈ wq_X12_hit := fun w h => List.mem_cons_of_mem _ (List.mem_append_right _ (List.mem_append_right _ (h)))
theorem ga_X12_hit : wq_X12_hit.all goodWord = true := by decide +kernel
theorem gq_X12_hit_X12_in_372 : GoodIn wq_X12_hit (va_wsS RX12 372 yX12_in wq_X12_in) := goodIn_app (goodIn_r _ [2, 3, 4] (by decide +kernel) (by decide +kernel)) (goodIn_sub mq_X12_hit_X12_in ga_X12_in)
theorem tdq_X12_hit : ∀ w ∈ dq_X12_hit, w ∈ lw_tbl := fun w h => (goodIn_r (big := lw_tbl) dq_X12_hit [2373, 2772, 2773, 296] (by decide +kernel) (by decide +kernel) w h).1
theorem tq_X12_hit : ∀ w ∈ wq_X12_hit, w ∈ lw_tbl := fun w h => (List.mem_cons.mp h).elim (fun e => by rw [e]; exact List.mem_of_getElem? (i := 3554) (by decide +kernel)) (fun h => (List.mem_append.mp h).elim (fun h => tdq_X12_hit w h) (fun h => (List.mem_append.mp h).elim (fun h => nX12 w h) (fun h => tq_X12_in w h)))
set_option maxHeartbeats 40000000 in
set_option maxRecDepth 100000 in
theorem c_X12_hit (l : Launch) (dC : Nat → ClassId) (dI : Nat → Nat → Nat) (cI cB cZ cJ cC cP cV cT cO : ClassId) (sz : Nat) (h0 : Nat) (g : Nat → Nat)  (p0 : Int32) (p1 : Int32) : Met l yX12_hit wq_X12_hit ({ frames := 1, cells := 0, slots := 0, locals := 25 }) (va_Pc [.ref h0, .int p0, .int p1] (fun U => U.heap.size = sz ∧ va_P (dC, dI) vwCl [(h0, .inr (12, (fsM g)))] U.heap ∧ va_K (dC, dI) vwCl [(cI, .int), (cB, .byte), (cZ, .boolean), (cJ, .long), (cC, .char), (cP, .object "DiskEvidence$Picture"), (cV, .object "DiskEvidence$Volume"), (cT, .object "DiskEvidence$Tree"), (cO, .object "DiskEvidence$Opening")] U ∧ va_D (fun _ => True) [(h0, .inr (12, (fsM g)))])) (vp_Si (fun r : Int32 => r = (-2))) 0 0 (fun _ => False) := by
  refine Met.ofW (cc := cX12_hit) (maxL := 3) (ret := (some .int)) (by decide) rfl ?_
  intro p e s m args below meth c s₁ B hml hv
  obtain ⟨rfl, hsz, hP, hK, hD0⟩ := hv
  have hx := B.exec
  have hb := B.bytes
  have hr := B.returns
  have hts := atoms_spec (ws := wq_X12_hit) B.pre
  have hown : s.vm.findClass RX12 = some m.cls := findClass_of_methodNamed B.named
  have hlocks := B.notSynchronized
  subst hsz
  have hD := hD0.self (sz := s.heap.size)
  generalize hAe : va_A [(h0, .inr (12, (fsM g)))] s.heap.size = A at hD ⊢
  have hA : ∀ q : Nat, s.heap.size ≤ q → A q := fun q h => by rw [← hAe]; exact Or.inr h
  have hS : va_S A s.heap s.heap [] := va_S.rf
  have hl := lv_entry ([.ref h0, .int p0, .int p1]) (n := 3) (Nat.le_of_ble_eq_true rfl)
  rw [lg_entry_eq]
  generalize (lg_sl ([.ref h0, .int p0, .int p1]) ++ List.replicate (3 - (lg_sl ([.ref h0, .int p0, .int p1])).length) Slot.unset).toArray = ls at hl ⊢
  have hl : lv_has ls 3 [(0, .ref h0), (1, .int p0), (2, .int p1)] := hl
  refine lv_iload_n hx hb dX12_hit_0 rfl (lv_at hl 1 rfl) ?_
  refine lv_i2l hx hb dX12_hit_1 rfl ?_
  refine lv_lconst (v := 0) hx hb dX12_hit_2 (by decide) ?_
  refine lv_aload_n hx hb dX12_hit_3 rfl (lv_at hl 0 rfl) ?_
  refine va_get (D := (dC, dI)) (ci := 12) (v := .int 0) (C := RX12) (T := TX12) (N := 172) hx hb hts inq_X12_hit_c12 hown hK hP 0 rfl rfl 124 (by decide) (hts (.fieldLink RX12 1023 "DiskEvidenceModel" "hits" "I") (List.mem_of_getElem? (i := 1) rfl)) (fun _ h9 => h9) rfl dX12_hit_4 ?_
  refine lv_iconst (v := 1) hx hb dX12_hit_7 (by decide) ?_
  refine lv_isub hx hb dX12_hit_8 ?_
  refine lv_topi (fun f_1 ef_1 => ?_)
  obtain rfl : (-1 : Int32) = f_1 := (ef_1.trans (by decide)).symm
  refine lv_i2l (v := (-1)) hx hb dX12_hit_9 (by decide) ?_
  refine vp_callSi (va_Run.run (va_runS (As := [.long p0.toInt64, .long 0, .long (-1)]) (rest := []) ⟨hx, hb, hml, hown, hts⟩ (c_X12_in l p0.toInt64 0 (-1)) (va_cwS 3 hts gq_X12_hit_X12_in_372 rfl rfl rfl (by decide +kernel) ⟨Nat.le_of_ble_eq_true rfl, Nat.le_of_ble_eq_true rfl⟩) ⟨fun a U g mk q => q, fun U hU hW => ⟨rfl, trivial⟩⟩ rfl rfl hl.1 rfl (lv_room (Nat.le_of_ble_eq_true rfl)) dX12_hit_10 ⟨Nat.le_of_ble_eq_true rfl, Nat.le_of_ble_eq_true rfl⟩)) (fun r_2 hr_2 => ?_)
  rcases hr_2 with ⟨rfl, hlo_3, hhi_3⟩ | ⟨rfl, hno_3⟩
  · exact absurd (Int64.le_trans hlo_3 hhi_3) (by decide)
  · refine lv_if_ne (tgt := 19) hx hb dX12_hit_13 (by decide) (fun c_4 => absurd (by decide) c_4) (fun _ => ?_)
    refine lv_bipush (v := (-2)) hx hb dX12_hit_16 (by decide) ?_
    exact W.iret (v := (-2)) hx hb hr (fun t ht hW => ⟨(-2), rfl, rfl, ht⟩) (fun _ h => by cases h) dX12_hit_18
def dq_X12_row : List Cond := [.fieldLink RX12 1133 "DiskEvidenceModel" "results" "I", .methodLink RX12 372 yX12_in, .static yX12_in, .initialized RX12]
def wq_X12_row : List Cond := .code yX12_row cX12_row 2 (some .int) :: (dq_X12_row ++ (wsX120 ++ (wq_X12_in)))
theorem inq_X12_row_c12 : ∀ w ∈ wsX120, w ∈ wq_X12_row := fun w h => List.mem_cons_of_mem _ (List.mem_append_right _ (List.mem_append_left _ h))
theorem mq_X12_row_X12_in : ∀ w ∈ wq_X12_in, w ∈ wq_X12_row := fun w h => List.mem_cons_of_mem _ (List.mem_append_right _ (List.mem_append_right _ (h)))
theorem ga_X12_row : wq_X12_row.all goodWord = true := by decide +kernel
theorem gq_X12_row_X12_in_372 : GoodIn wq_X12_row (va_wsS RX12 372 yX12_in wq_X12_in) := goodIn_app (goodIn_r _ [2, 3, 4] (by decide +kernel) (by decide +kernel)) (goodIn_sub mq_X12_row_X12_in ga_X12_in)
theorem tdq_X12_row : ∀ w ∈ dq_X12_row, w ∈ lw_tbl := fun w h => (goodIn_r (big := lw_tbl) dq_X12_row [2398, 2772, 2773, 296] (by decide +kernel) (by decide +kernel) w h).1
theorem tq_X12_row : ∀ w ∈ wq_X12_row, w ∈ lw_tbl := fun w h => (List.mem_cons.mp h).elim (fun e => by rw [e]; exact List.mem_of_getElem? (i := 3647) (by decide +kernel)) (fun h => (List.mem_append.mp h).elim (fun h => tdq_X12_row w h) (fun h => (List.mem_append.mp h).elim (fun h => nX12 w h) (fun h => tq_X12_in w h)))
set_option maxHeartbeats 40000000 in
set_option maxRecDepth 100000 in
theorem c_X12_row (l : Launch) (dC : Nat → ClassId) (dI : Nat → Nat → Nat) (cI cB cZ cJ cC cP cV cT cO : ClassId) (sz : Nat) (h0 : Nat) (g : Nat → Nat)  (p0 : Int32) : Met l yX12_row wq_X12_row ({ frames := 1, cells := 0, slots := 0, locals := 25 }) (va_Pc [.ref h0, .int p0] (fun U => U.heap.size = sz ∧ va_P (dC, dI) vwCl [(h0, .inr (12, (fsM g)))] U.heap ∧ va_K (dC, dI) vwCl [(cI, .int), (cB, .byte), (cZ, .boolean), (cJ, .long), (cC, .char), (cP, .object "DiskEvidence$Picture"), (cV, .object "DiskEvidence$Volume"), (cT, .object "DiskEvidence$Tree"), (cO, .object "DiskEvidence$Opening")] U ∧ va_D (fun _ => True) [(h0, .inr (12, (fsM g)))])) (vp_Si (fun r : Int32 => r = (-2))) 0 0 (fun _ => False) := by
  refine Met.ofW (cc := cX12_row) (maxL := 2) (ret := (some .int)) (by decide) rfl ?_
  intro p e s m args below meth c s₁ B hml hv
  obtain ⟨rfl, hsz, hP, hK, hD0⟩ := hv
  have hx := B.exec
  have hb := B.bytes
  have hr := B.returns
  have hts := atoms_spec (ws := wq_X12_row) B.pre
  have hown : s.vm.findClass RX12 = some m.cls := findClass_of_methodNamed B.named
  have hlocks := B.notSynchronized
  subst hsz
  have hD := hD0.self (sz := s.heap.size)
  generalize hAe : va_A [(h0, .inr (12, (fsM g)))] s.heap.size = A at hD ⊢
  have hA : ∀ q : Nat, s.heap.size ≤ q → A q := fun q h => by rw [← hAe]; exact Or.inr h
  have hS : va_S A s.heap s.heap [] := va_S.rf
  have hl := lv_entry ([.ref h0, .int p0]) (n := 2) (Nat.le_of_ble_eq_true rfl)
  rw [lg_entry_eq]
  generalize (lg_sl ([.ref h0, .int p0]) ++ List.replicate (2 - (lg_sl ([.ref h0, .int p0])).length) Slot.unset).toArray = ls at hl ⊢
  have hl : lv_has ls 2 [(0, .ref h0), (1, .int p0)] := hl
  refine lv_iload_n hx hb dX12_row_0 rfl (lv_at hl 1 rfl) ?_
  refine lv_i2l hx hb dX12_row_1 rfl ?_
  refine lv_lconst (v := 0) hx hb dX12_row_2 (by decide) ?_
  refine lv_aload_n hx hb dX12_row_3 rfl (lv_at hl 0 rfl) ?_
  refine va_get (D := (dC, dI)) (ci := 12) (v := .int 0) (C := RX12) (T := TX12) (N := 172) hx hb hts inq_X12_row_c12 hown hK hP 0 rfl rfl 149 (by decide) (hts (.fieldLink RX12 1133 "DiskEvidenceModel" "results" "I") (List.mem_of_getElem? (i := 1) rfl)) (fun _ h9 => h9) rfl dX12_row_4 ?_
  refine lv_iconst (v := 1) hx hb dX12_row_7 (by decide) ?_
  refine lv_isub hx hb dX12_row_8 ?_
  refine lv_topi (fun f_1 ef_1 => ?_)
  obtain rfl : (-1 : Int32) = f_1 := (ef_1.trans (by decide)).symm
  refine lv_i2l (v := (-1)) hx hb dX12_row_9 (by decide) ?_
  refine vp_callSi (va_Run.run (va_runS (As := [.long p0.toInt64, .long 0, .long (-1)]) (rest := []) ⟨hx, hb, hml, hown, hts⟩ (c_X12_in l p0.toInt64 0 (-1)) (va_cwS 3 hts gq_X12_row_X12_in_372 rfl rfl rfl (by decide +kernel) ⟨Nat.le_of_ble_eq_true rfl, Nat.le_of_ble_eq_true rfl⟩) ⟨fun a U g mk q => q, fun U hU hW => ⟨rfl, trivial⟩⟩ rfl rfl hl.1 rfl (lv_room (Nat.le_of_ble_eq_true rfl)) dX12_row_10 ⟨Nat.le_of_ble_eq_true rfl, Nat.le_of_ble_eq_true rfl⟩)) (fun r_2 hr_2 => ?_)
  rcases hr_2 with ⟨rfl, hlo_3, hhi_3⟩ | ⟨rfl, hno_3⟩
  · exact absurd (Int64.le_trans hlo_3 hhi_3) (by decide)
  · refine lv_if_eq (tgt := 25) hx hb dX12_row_13 (by decide) (fun _ => ?_) (fun c_4 => absurd (by decide) c_4)
    refine lv_bipush (v := (-2)) hx hb dX12_row_25 (by decide) ?_
    exact W.iret (v := (-2)) hx hb hr (fun t ht hW => ⟨(-2), rfl, rfl, ht⟩) (fun _ h => by cases h) dX12_row_27
def dq_X12_time : List Cond := [.fieldLink RX12 1136 "DiskEvidenceModel" "moments" "I", .methodLink RX12 372 yX12_in, .static yX12_in, .initialized RX12, .constantLong RX12 438 (-2)]
def wq_X12_time : List Cond := .code yX12_time cX12_time 3 (some .long) :: (dq_X12_time ++ (wsX120 ++ (wq_X12_in)))
theorem inq_X12_time_c12 : ∀ w ∈ wsX120, w ∈ wq_X12_time := fun w h => List.mem_cons_of_mem _ (List.mem_append_right _ (List.mem_append_left _ h))
theorem mq_X12_time_X12_in : ∀ w ∈ wq_X12_in, w ∈ wq_X12_time := fun w h => List.mem_cons_of_mem _ (List.mem_append_right _ (List.mem_append_right _ (h)))
theorem ga_X12_time : wq_X12_time.all goodWord = true := by decide +kernel
theorem gq_X12_time_X12_in_372 : GoodIn wq_X12_time (va_wsS RX12 372 yX12_in wq_X12_in) := goodIn_app (goodIn_r _ [2, 3, 4] (by decide +kernel) (by decide +kernel)) (goodIn_sub mq_X12_time_X12_in ga_X12_in)
theorem tdq_X12_time : ∀ w ∈ dq_X12_time, w ∈ lw_tbl := fun w h => (goodIn_r (big := lw_tbl) dq_X12_time [2400, 2772, 2773, 296, 2858] (by decide +kernel) (by decide +kernel) w h).1
theorem tq_X12_time : ∀ w ∈ wq_X12_time, w ∈ lw_tbl := fun w h => (List.mem_cons.mp h).elim (fun e => by rw [e]; exact List.mem_of_getElem? (i := 3663) (by decide +kernel)) (fun h => (List.mem_append.mp h).elim (fun h => tdq_X12_time w h) (fun h => (List.mem_append.mp h).elim (fun h => nX12 w h) (fun h => tq_X12_in w h)))
set_option maxHeartbeats 40000000 in
set_option maxRecDepth 100000 in
theorem c_X12_time (l : Launch) (dC : Nat → ClassId) (dI : Nat → Nat → Nat) (cI cB cZ cJ cC cP cV cT cO : ClassId) (sz : Nat) (h0 : Nat) (g : Nat → Nat)  (p0 : Int32) (p1 : Int32) : Met l yX12_time wq_X12_time ({ frames := 1, cells := 0, slots := 0, locals := 25 }) (va_Pc [.ref h0, .int p0, .int p1] (fun U => U.heap.size = sz ∧ va_P (dC, dI) vwCl [(h0, .inr (12, (fsM g)))] U.heap ∧ va_K (dC, dI) vwCl [(cI, .int), (cB, .byte), (cZ, .boolean), (cJ, .long), (cC, .char), (cP, .object "DiskEvidence$Picture"), (cV, .object "DiskEvidence$Volume"), (cT, .object "DiskEvidence$Tree"), (cO, .object "DiskEvidence$Opening")] U ∧ va_D (fun _ => True) [(h0, .inr (12, (fsM g)))])) (vp_Sl (fun r : Int64 => r = (-2))) 0 0 (fun _ => False) := by
  refine Met.ofW (cc := cX12_time) (maxL := 3) (ret := (some .long)) (by decide) rfl ?_
  intro p e s m args below meth c s₁ B hml hv
  obtain ⟨rfl, hsz, hP, hK, hD0⟩ := hv
  have hx := B.exec
  have hb := B.bytes
  have hr := B.returns
  have hts := atoms_spec (ws := wq_X12_time) B.pre
  have hown : s.vm.findClass RX12 = some m.cls := findClass_of_methodNamed B.named
  have hlocks := B.notSynchronized
  subst hsz
  have hD := hD0.self (sz := s.heap.size)
  generalize hAe : va_A [(h0, .inr (12, (fsM g)))] s.heap.size = A at hD ⊢
  have hA : ∀ q : Nat, s.heap.size ≤ q → A q := fun q h => by rw [← hAe]; exact Or.inr h
  have hS : va_S A s.heap s.heap [] := va_S.rf
  have hl := lv_entry ([.ref h0, .int p0, .int p1]) (n := 3) (Nat.le_of_ble_eq_true rfl)
  rw [lg_entry_eq]
  generalize (lg_sl ([.ref h0, .int p0, .int p1]) ++ List.replicate (3 - (lg_sl ([.ref h0, .int p0, .int p1])).length) Slot.unset).toArray = ls at hl ⊢
  have hl : lv_has ls 3 [(0, .ref h0), (1, .int p0), (2, .int p1)] := hl
  refine lv_iload_n hx hb dX12_time_0 rfl (lv_at hl 1 rfl) ?_
  refine lv_i2l hx hb dX12_time_1 rfl ?_
  refine lv_lconst (v := 0) hx hb dX12_time_2 (by decide) ?_
  refine lv_aload_n hx hb dX12_time_3 rfl (lv_at hl 0 rfl) ?_
  refine va_get (D := (dC, dI)) (ci := 12) (v := .int 0) (C := RX12) (T := TX12) (N := 172) hx hb hts inq_X12_time_c12 hown hK hP 0 rfl rfl 151 (by decide) (hts (.fieldLink RX12 1136 "DiskEvidenceModel" "moments" "I") (List.mem_of_getElem? (i := 1) rfl)) (fun _ h9 => h9) rfl dX12_time_4 ?_
  refine lv_iconst (v := 1) hx hb dX12_time_7 (by decide) ?_
  refine lv_isub hx hb dX12_time_8 ?_
  refine lv_topi (fun f_1 ef_1 => ?_)
  obtain rfl : (-1 : Int32) = f_1 := (ef_1.trans (by decide)).symm
  refine lv_i2l (v := (-1)) hx hb dX12_time_9 (by decide) ?_
  refine vp_callSi (va_Run.run (va_runS (As := [.long p0.toInt64, .long 0, .long (-1)]) (rest := []) ⟨hx, hb, hml, hown, hts⟩ (c_X12_in l p0.toInt64 0 (-1)) (va_cwS 3 hts gq_X12_time_X12_in_372 rfl rfl rfl (by decide +kernel) ⟨Nat.le_of_ble_eq_true rfl, Nat.le_of_ble_eq_true rfl⟩) ⟨fun a U g mk q => q, fun U hU hW => ⟨rfl, trivial⟩⟩ rfl rfl hl.1 rfl (lv_room (Nat.le_of_ble_eq_true rfl)) dX12_time_10 ⟨Nat.le_of_ble_eq_true rfl, Nat.le_of_ble_eq_true rfl⟩)) (fun r_2 hr_2 => ?_)
  rcases hr_2 with ⟨rfl, hlo_3, hhi_3⟩ | ⟨rfl, hno_3⟩
  · exact absurd (Int64.le_trans hlo_3 hhi_3) (by decide)
  · refine lv_if_ne (tgt := 20) hx hb dX12_time_13 (by decide) (fun c_4 => absurd (by decide) c_4) (fun _ => ?_)
    refine lv_ldc2 (v := (-2)) hx hb hown (hts (.constantLong RX12 438 (-2)) (List.mem_of_getElem? (i := 5) rfl)) dX12_time_16 ?_
    exact W.lret (v := (-2)) hx hb hr (fun t ht hW => ⟨(-2), rfl, rfl, ht⟩) (fun _ h => by cases h) dX12_time_19
def dq_X12_doubt : List Cond := [.fieldLink RX12 1147 "DiskEvidenceModel" "doubts" "I", .methodLink RX12 372 yX12_in, .static yX12_in, .initialized RX12]
def wq_X12_doubt : List Cond := .code yX12_doubt cX12_doubt 3 (some .int) :: (dq_X12_doubt ++ (wsX120 ++ (wq_X12_in)))
theorem inq_X12_doubt_c12 : ∀ w ∈ wsX120, w ∈ wq_X12_doubt := fun w h => List.mem_cons_of_mem _ (List.mem_append_right _ (List.mem_append_left _ h))
theorem mq_X12_doubt_X12_in : ∀ w ∈ wq_X12_in, w ∈ wq_X12_doubt := fun w h => List.mem_cons_of_mem _ (List.mem_append_right _ (List.mem_append_right _ (h)))
theorem ga_X12_doubt : wq_X12_doubt.all goodWord = true := by decide +kernel
theorem gq_X12_doubt_X12_in_372 : GoodIn wq_X12_doubt (va_wsS RX12 372 yX12_in wq_X12_in) := goodIn_app (goodIn_r _ [2, 3, 4] (by decide +kernel) (by decide +kernel)) (goodIn_sub mq_X12_doubt_X12_in ga_X12_in)
theorem tdq_X12_doubt : ∀ w ∈ dq_X12_doubt, w ∈ lw_tbl := fun w h => (goodIn_r (big := lw_tbl) dq_X12_doubt [2406, 2772, 2773, 296] (by decide +kernel) (by decide +kernel) w h).1
theorem tq_X12_doubt : ∀ w ∈ wq_X12_doubt, w ∈ lw_tbl := fun w h => (List.mem_cons.mp h).elim (fun e => by rw [e]; exact List.mem_of_getElem? (i := 3675) (by decide +kernel)) (fun h => (List.mem_append.mp h).elim (fun h => tdq_X12_doubt w h) (fun h => (List.mem_append.mp h).elim (fun h => nX12 w h) (fun h => tq_X12_in w h)))
set_option maxHeartbeats 40000000 in
set_option maxRecDepth 100000 in
theorem c_X12_doubt (l : Launch) (dC : Nat → ClassId) (dI : Nat → Nat → Nat) (cI cB cZ cJ cC cP cV cT cO : ClassId) (sz : Nat) (h0 : Nat) (g : Nat → Nat)  (p0 : Int32) (p1 : Int32) : Met l yX12_doubt wq_X12_doubt ({ frames := 1, cells := 0, slots := 0, locals := 25 }) (va_Pc [.ref h0, .int p0, .int p1] (fun U => U.heap.size = sz ∧ va_P (dC, dI) vwCl [(h0, .inr (12, (fsM g)))] U.heap ∧ va_K (dC, dI) vwCl [(cI, .int), (cB, .byte), (cZ, .boolean), (cJ, .long), (cC, .char), (cP, .object "DiskEvidence$Picture"), (cV, .object "DiskEvidence$Volume"), (cT, .object "DiskEvidence$Tree"), (cO, .object "DiskEvidence$Opening")] U ∧ va_D (fun _ => True) [(h0, .inr (12, (fsM g)))])) (vp_Si (fun r : Int32 => r = (-2))) 0 0 (fun _ => False) := by
  refine Met.ofW (cc := cX12_doubt) (maxL := 3) (ret := (some .int)) (by decide) rfl ?_
  intro p e s m args below meth c s₁ B hml hv
  obtain ⟨rfl, hsz, hP, hK, hD0⟩ := hv
  have hx := B.exec
  have hb := B.bytes
  have hr := B.returns
  have hts := atoms_spec (ws := wq_X12_doubt) B.pre
  have hown : s.vm.findClass RX12 = some m.cls := findClass_of_methodNamed B.named
  have hlocks := B.notSynchronized
  subst hsz
  have hD := hD0.self (sz := s.heap.size)
  generalize hAe : va_A [(h0, .inr (12, (fsM g)))] s.heap.size = A at hD ⊢
  have hA : ∀ q : Nat, s.heap.size ≤ q → A q := fun q h => by rw [← hAe]; exact Or.inr h
  have hS : va_S A s.heap s.heap [] := va_S.rf
  have hl := lv_entry ([.ref h0, .int p0, .int p1]) (n := 3) (Nat.le_of_ble_eq_true rfl)
  rw [lg_entry_eq]
  generalize (lg_sl ([.ref h0, .int p0, .int p1]) ++ List.replicate (3 - (lg_sl ([.ref h0, .int p0, .int p1])).length) Slot.unset).toArray = ls at hl ⊢
  have hl : lv_has ls 3 [(0, .ref h0), (1, .int p0), (2, .int p1)] := hl
  refine lv_iload_n hx hb dX12_doubt_0 rfl (lv_at hl 1 rfl) ?_
  refine lv_i2l hx hb dX12_doubt_1 rfl ?_
  refine lv_lconst (v := 0) hx hb dX12_doubt_2 (by decide) ?_
  refine lv_aload_n hx hb dX12_doubt_3 rfl (lv_at hl 0 rfl) ?_
  refine va_get (D := (dC, dI)) (ci := 12) (v := .int 0) (C := RX12) (T := TX12) (N := 172) hx hb hts inq_X12_doubt_c12 hown hK hP 0 rfl rfl 157 (by decide) (hts (.fieldLink RX12 1147 "DiskEvidenceModel" "doubts" "I") (List.mem_of_getElem? (i := 1) rfl)) (fun _ h9 => h9) rfl dX12_doubt_4 ?_
  refine lv_iconst (v := 1) hx hb dX12_doubt_7 (by decide) ?_
  refine lv_isub hx hb dX12_doubt_8 ?_
  refine lv_topi (fun f_1 ef_1 => ?_)
  obtain rfl : (-1 : Int32) = f_1 := (ef_1.trans (by decide)).symm
  refine lv_i2l (v := (-1)) hx hb dX12_doubt_9 (by decide) ?_
  refine vp_callSi (va_Run.run (va_runS (As := [.long p0.toInt64, .long 0, .long (-1)]) (rest := []) ⟨hx, hb, hml, hown, hts⟩ (c_X12_in l p0.toInt64 0 (-1)) (va_cwS 3 hts gq_X12_doubt_X12_in_372 rfl rfl rfl (by decide +kernel) ⟨Nat.le_of_ble_eq_true rfl, Nat.le_of_ble_eq_true rfl⟩) ⟨fun a U g mk q => q, fun U hU hW => ⟨rfl, trivial⟩⟩ rfl rfl hl.1 rfl (lv_room (Nat.le_of_ble_eq_true rfl)) dX12_doubt_10 ⟨Nat.le_of_ble_eq_true rfl, Nat.le_of_ble_eq_true rfl⟩)) (fun r_2 hr_2 => ?_)
  rcases hr_2 with ⟨rfl, hlo_3, hhi_3⟩ | ⟨rfl, hno_3⟩
  · exact absurd (Int64.le_trans hlo_3 hhi_3) (by decide)
  · refine lv_if_ne (tgt := 19) hx hb dX12_doubt_13 (by decide) (fun c_4 => absurd (by decide) c_4) (fun _ => ?_)
    refine lv_bipush (v := (-2)) hx hb dX12_doubt_16 (by decide) ?_
    exact W.iret (v := (-2)) hx hb hr (fun t ht hW => ⟨(-2), rfl, rfl, ht⟩) (fun _ h => by cases h) dX12_doubt_18
def dq_X11_time : List Cond := [.constantLong RX11 129 (-2), .fieldLink RX11 65 "DiskEvidence" "timeLine" "LDiskEvidence$TimeLine;", .fieldLink RX11 354 "DiskEvidence$TimeLine" "momentCount" "I"]
def wq_X11_time : List Cond := .code yX11_time cX11_time 3 (some .long) :: (dq_X11_time ++ (wsX110 ++ (wsX80)))
theorem inq_X11_time_c11 : ∀ w ∈ wsX110, w ∈ wq_X11_time := fun w h => List.mem_cons_of_mem _ (List.mem_append_right _ (List.mem_append_left _ h))
theorem inq_X11_time_c8 : ∀ w ∈ wsX80, w ∈ wq_X11_time := fun w h => List.mem_cons_of_mem _ (List.mem_append_right _ (List.mem_append_right _ (h)))
theorem ga_X11_time : wq_X11_time.all goodWord = true := by decide +kernel
theorem tdq_X11_time : ∀ w ∈ dq_X11_time, w ∈ lw_tbl := fun w h => (goodIn_r (big := lw_tbl) dq_X11_time [771, 602, 571] (by decide +kernel) (by decide +kernel) w h).1
theorem tq_X11_time : ∀ w ∈ wq_X11_time, w ∈ lw_tbl := fun w h => (List.mem_cons.mp h).elim (fun e => by rw [e]; exact List.mem_of_getElem? (i := 2161) (by decide +kernel)) (fun h => (List.mem_append.mp h).elim (fun h => tdq_X11_time w h) (fun h => (List.mem_append.mp h).elim (fun h => nX11 w h) (fun h => nX8 w h)))
set_option maxHeartbeats 40000000 in
set_option maxRecDepth 100000 in
theorem c_X11_time (l : Launch) (dC : Nat → ClassId) (dI : Nat → Nat → Nat) (cI cB cZ cJ cC cP cV cT cO : ClassId) (sz : Nat) (h0 : Nat) (g : Nat → Nat) (tt : Nat → Nat) (p0 : Int32) (p1 : Int32) : Met l yX11_time wq_X11_time ({ frames := 0, cells := 0, slots := 0, locals := 0 }) (va_Pc [.ref h0, .int p0, .int p1] (fun U => U.heap.size = sz ∧ va_P (dC, dI) vwCl [(h0, .inr (11, (fsX g))), ((g 16), .inr (8, (fs8 tt)))] U.heap ∧ va_K (dC, dI) vwCl [(cI, .int), (cB, .byte), (cZ, .boolean), (cJ, .long), (cC, .char), (cP, .object "DiskEvidence$Picture"), (cV, .object "DiskEvidence$Volume"), (cT, .object "DiskEvidence$Tree"), (cO, .object "DiskEvidence$Opening")] U ∧ va_D (fun _ => True) [(h0, .inr (11, (fsX g))), ((g 16), .inr (8, (fs8 tt)))])) (vp_Sl (fun r : Int64 => r = (-2))) 0 0 (fun _ => False) := by
  refine Met.ofW (cc := cX11_time) (maxL := 3) (ret := (some .long)) (by decide) rfl ?_
  intro p e s m args below meth c s₁ B hml hv
  obtain ⟨rfl, hsz, hP, hK, hD0⟩ := hv
  have hx := B.exec
  have hb := B.bytes
  have hr := B.returns
  have hts := atoms_spec (ws := wq_X11_time) B.pre
  have hown : s.vm.findClass RX11 = some m.cls := findClass_of_methodNamed B.named
  have hlocks := B.notSynchronized
  subst hsz
  have hD := hD0.self (sz := s.heap.size)
  generalize hAe : va_A [(h0, .inr (11, (fsX g))), ((g 16), .inr (8, (fs8 tt)))] s.heap.size = A at hD ⊢
  have hA : ∀ q : Nat, s.heap.size ≤ q → A q := fun q h => by rw [← hAe]; exact Or.inr h
  have hS : va_S A s.heap s.heap [] := va_S.rf
  have hl := lv_entry ([.ref h0, .int p0, .int p1]) (n := 3) (Nat.le_of_ble_eq_true rfl)
  rw [lg_entry_eq]
  generalize (lg_sl ([.ref h0, .int p0, .int p1]) ++ List.replicate (3 - (lg_sl ([.ref h0, .int p0, .int p1])).length) Slot.unset).toArray = ls at hl ⊢
  have hl : lv_has ls 3 [(0, .ref h0), (1, .int p0), (2, .int p1)] := hl
  refine lv_iload_n hx hb dX11_time_0 rfl (lv_at hl 1 rfl) ?_
  refine lv_if_lt (tgt := 24) hx hb dX11_time_1 (by decide) (fun c_1 => ?_) (fun c_1 => ?_)
  · refine lv_ldc2 (v := (-2)) hx hb hown (hts (.constantLong RX11 129 (-2)) (List.mem_of_getElem? (i := 1) rfl)) dX11_time_24 ?_
    exact W.lret (v := (-2)) hx hb hr (fun t ht hW => ⟨(-2), rfl, rfl, ht⟩) (fun _ h => by cases h) dX11_time_27
  · refine lv_iload_n hx hb dX11_time_4 rfl (lv_at hl 1 rfl) ?_
    refine lv_aload_n hx hb dX11_time_5 rfl (lv_at hl 0 rfl) ?_
    refine va_get (D := (dC, dI)) (ci := 11) (v := .ref (g 16)) (C := RX11) (T := TX11) (N := 20) hx hb hts inq_X11_time_c11 hown hK hP 0 rfl rfl 16 (by decide) (hts (.fieldLink RX11 65 "DiskEvidence" "timeLine" "LDiskEvidence$TimeLine;") (List.mem_of_getElem? (i := 2) rfl)) (fun _ h9 => h9) rfl dX11_time_6 ?_
    refine va_get (D := (dC, dI)) (ci := 8) (v := .int 0) (C := RX8) (T := TX8) (N := 5) hx hb hts inq_X11_time_c8 hown hK hP 1 rfl rfl 2 (by decide) (hts (.fieldLink RX11 354 "DiskEvidence$TimeLine" "momentCount" "I") (List.mem_of_getElem? (i := 3) rfl)) (fun _ h9 => h9) rfl dX11_time_9 ?_
    refine lv_icmp_ge (tgt := 24) hx hb dX11_time_12 (by decide) (fun _ => ?_) (fun c_2 => absurd (Int32.not_lt.mp c_1) c_2)
    refine lv_ldc2 (v := (-2)) hx hb hown (hts (.constantLong RX11 129 (-2)) (List.mem_of_getElem? (i := 1) rfl)) dX11_time_24 ?_
    exact W.lret (v := (-2)) hx hb hr (fun t ht hW => ⟨(-2), rfl, rfl, ht⟩) (fun _ h => by cases h) dX11_time_27
def dq_X11_doubt : List Cond := [.fieldLink RX11 65 "DiskEvidence" "timeLine" "LDiskEvidence$TimeLine;", .fieldLink RX11 375 "DiskEvidence$TimeLine" "doubtCount" "I"]
def wq_X11_doubt : List Cond := .code yX11_doubt cX11_doubt 3 (some .int) :: (dq_X11_doubt ++ (wsX110 ++ (wsX80)))
theorem inq_X11_doubt_c11 : ∀ w ∈ wsX110, w ∈ wq_X11_doubt := fun w h => List.mem_cons_of_mem _ (List.mem_append_right _ (List.mem_append_left _ h))
theorem inq_X11_doubt_c8 : ∀ w ∈ wsX80, w ∈ wq_X11_doubt := fun w h => List.mem_cons_of_mem _ (List.mem_append_right _ (List.mem_append_right _ (h)))
theorem ga_X11_doubt : wq_X11_doubt.all goodWord = true := by decide +kernel
theorem tdq_X11_doubt : ∀ w ∈ dq_X11_doubt, w ∈ lw_tbl := fun w h => (goodIn_r (big := lw_tbl) dq_X11_doubt [602, 574] (by decide +kernel) (by decide +kernel) w h).1
theorem tq_X11_doubt : ∀ w ∈ wq_X11_doubt, w ∈ lw_tbl := fun w h => (List.mem_cons.mp h).elim (fun e => by rw [e]; exact List.mem_of_getElem? (i := 2182) (by decide +kernel)) (fun h => (List.mem_append.mp h).elim (fun h => tdq_X11_doubt w h) (fun h => (List.mem_append.mp h).elim (fun h => nX11 w h) (fun h => nX8 w h)))
set_option maxHeartbeats 40000000 in
set_option maxRecDepth 100000 in
theorem c_X11_doubt (l : Launch) (dC : Nat → ClassId) (dI : Nat → Nat → Nat) (cI cB cZ cJ cC cP cV cT cO : ClassId) (sz : Nat) (h0 : Nat) (g : Nat → Nat) (tt : Nat → Nat) (p0 : Int32) (p1 : Int32) : Met l yX11_doubt wq_X11_doubt ({ frames := 0, cells := 0, slots := 0, locals := 0 }) (va_Pc [.ref h0, .int p0, .int p1] (fun U => U.heap.size = sz ∧ va_P (dC, dI) vwCl [(h0, .inr (11, (fsX g))), ((g 16), .inr (8, (fs8 tt)))] U.heap ∧ va_K (dC, dI) vwCl [(cI, .int), (cB, .byte), (cZ, .boolean), (cJ, .long), (cC, .char), (cP, .object "DiskEvidence$Picture"), (cV, .object "DiskEvidence$Volume"), (cT, .object "DiskEvidence$Tree"), (cO, .object "DiskEvidence$Opening")] U ∧ va_D (fun _ => True) [(h0, .inr (11, (fsX g))), ((g 16), .inr (8, (fs8 tt)))])) (vp_Si (fun r : Int32 => r = (-2))) 0 0 (fun _ => False) := by
  refine Met.ofW (cc := cX11_doubt) (maxL := 3) (ret := (some .int)) (by decide) rfl ?_
  intro p e s m args below meth c s₁ B hml hv
  obtain ⟨rfl, hsz, hP, hK, hD0⟩ := hv
  have hx := B.exec
  have hb := B.bytes
  have hr := B.returns
  have hts := atoms_spec (ws := wq_X11_doubt) B.pre
  have hown : s.vm.findClass RX11 = some m.cls := findClass_of_methodNamed B.named
  have hlocks := B.notSynchronized
  subst hsz
  have hD := hD0.self (sz := s.heap.size)
  generalize hAe : va_A [(h0, .inr (11, (fsX g))), ((g 16), .inr (8, (fs8 tt)))] s.heap.size = A at hD ⊢
  have hA : ∀ q : Nat, s.heap.size ≤ q → A q := fun q h => by rw [← hAe]; exact Or.inr h
  have hS : va_S A s.heap s.heap [] := va_S.rf
  have hl := lv_entry ([.ref h0, .int p0, .int p1]) (n := 3) (Nat.le_of_ble_eq_true rfl)
  rw [lg_entry_eq]
  generalize (lg_sl ([.ref h0, .int p0, .int p1]) ++ List.replicate (3 - (lg_sl ([.ref h0, .int p0, .int p1])).length) Slot.unset).toArray = ls at hl ⊢
  have hl : lv_has ls 3 [(0, .ref h0), (1, .int p0), (2, .int p1)] := hl
  refine lv_iload_n hx hb dX11_doubt_0 rfl (lv_at hl 1 rfl) ?_
  refine lv_if_lt (tgt := 24) hx hb dX11_doubt_1 (by decide) (fun c_1 => ?_) (fun c_1 => ?_)
  · refine lv_bipush (v := (-2)) hx hb dX11_doubt_24 (by decide) ?_
    exact W.iret (v := (-2)) hx hb hr (fun t ht hW => ⟨(-2), rfl, rfl, ht⟩) (fun _ h => by cases h) dX11_doubt_26
  · refine lv_iload_n hx hb dX11_doubt_4 rfl (lv_at hl 1 rfl) ?_
    refine lv_aload_n hx hb dX11_doubt_5 rfl (lv_at hl 0 rfl) ?_
    refine va_get (D := (dC, dI)) (ci := 11) (v := .ref (g 16)) (C := RX11) (T := TX11) (N := 20) hx hb hts inq_X11_doubt_c11 hown hK hP 0 rfl rfl 16 (by decide) (hts (.fieldLink RX11 65 "DiskEvidence" "timeLine" "LDiskEvidence$TimeLine;") (List.mem_of_getElem? (i := 1) rfl)) (fun _ h9 => h9) rfl dX11_doubt_6 ?_
    refine va_get (D := (dC, dI)) (ci := 8) (v := .int 0) (C := RX8) (T := TX8) (N := 5) hx hb hts inq_X11_doubt_c8 hown hK hP 1 rfl rfl 4 (by decide) (hts (.fieldLink RX11 375 "DiskEvidence$TimeLine" "doubtCount" "I") (List.mem_of_getElem? (i := 2) rfl)) (fun _ h9 => h9) rfl dX11_doubt_9 ?_
    refine lv_icmp_ge (tgt := 24) hx hb dX11_doubt_12 (by decide) (fun _ => ?_) (fun c_2 => absurd (Int32.not_lt.mp c_1) c_2)
    refine lv_bipush (v := (-2)) hx hb dX11_doubt_24 (by decide) ?_
    exact W.iret (v := (-2)) hx hb hr (fun t ht hW => ⟨(-2), rfl, rfl, ht⟩) (fun _ h => by cases h) dX11_doubt_26
def dq_X8_sortMoments : List Cond := [.fieldLink RX8 22 "DiskEvidence$TimeLine" "momentCount" "I"]
def wq_X8_sortMoments : List Cond := .code yX8_sortMoments cX8_sortMoments 6 none :: (dq_X8_sortMoments ++ (wsX80))
theorem inq_X8_sortMoments_c8 : ∀ w ∈ wsX80, w ∈ wq_X8_sortMoments := fun w h => List.mem_cons_of_mem _ (List.mem_append_right _ (h))
theorem ga_X8_sortMoments : wq_X8_sortMoments.all goodWord = true := by decide +kernel
theorem tdq_X8_sortMoments : ∀ w ∈ dq_X8_sortMoments, w ∈ lw_tbl := fun w h => (goodIn_r (big := lw_tbl) dq_X8_sortMoments [570] (by decide +kernel) (by decide +kernel) w h).1
theorem tq_X8_sortMoments : ∀ w ∈ wq_X8_sortMoments, w ∈ lw_tbl := fun w h => (List.mem_cons.mp h).elim (fun e => by rw [e]; exact List.mem_of_getElem? (i := 2157) (by decide +kernel)) (fun h => (List.mem_append.mp h).elim (fun h => tdq_X8_sortMoments w h) (fun h => nX8 w h))
set_option maxHeartbeats 40000000 in
set_option maxRecDepth 100000 in
theorem c_X8_sortMoments (l : Launch) (dC : Nat → ClassId) (dI : Nat → Nat → Nat) (cI cB cZ cJ cC cP cV cT cO : ClassId) (sz : Nat) (h0 : Nat) (tt : Nat → Nat) : Met l yX8_sortMoments wq_X8_sortMoments ({ frames := 0, cells := 0, slots := 0, locals := 0 }) (va_Pc [.ref h0] (fun U => U.heap.size = sz ∧ va_P (dC, dI) vwCl [(h0, .inr (8, (fs8 tt)))] U.heap ∧ va_K (dC, dI) vwCl [(cI, .int), (cB, .byte), (cZ, .boolean), (cJ, .long), (cC, .char), (cP, .object "DiskEvidence$Picture"), (cV, .object "DiskEvidence$Volume"), (cT, .object "DiskEvidence$Tree"), (cO, .object "DiskEvidence$Opening")] U ∧ va_D (fun _ => True) [(h0, .inr (8, (fs8 tt)))])) (va_Sv (fun _ : Unit => True)) 0 0 (fun _ => False) := by
  refine Met.ofW (cc := cX8_sortMoments) (maxL := 6) (ret := none) (by decide) rfl ?_
  intro p e s m args below meth c s₁ B hml hv
  obtain ⟨rfl, hsz, hP, hK, hD0⟩ := hv
  have hx := B.exec
  have hb := B.bytes
  have hr := B.returns
  have hts := atoms_spec (ws := wq_X8_sortMoments) B.pre
  have hown : s.vm.findClass RX8 = some m.cls := findClass_of_methodNamed B.named
  have hlocks := B.notSynchronized
  subst hsz
  have hD := hD0.self (sz := s.heap.size)
  generalize hAe : va_A [(h0, .inr (8, (fs8 tt)))] s.heap.size = A at hD ⊢
  have hA : ∀ q : Nat, s.heap.size ≤ q → A q := fun q h => by rw [← hAe]; exact Or.inr h
  have hS : va_S A s.heap s.heap [] := va_S.rf
  have hl := lv_entry ([.ref h0]) (n := 6) (Nat.le_of_ble_eq_true rfl)
  rw [lg_entry_eq]
  generalize (lg_sl ([.ref h0]) ++ List.replicate (6 - (lg_sl ([.ref h0])).length) Slot.unset).toArray = ls at hl ⊢
  have hl : lv_has ls 6 [(0, .ref h0)] := hl
  refine lv_iconst (v := 1) hx hb dX8_sortMoments_0 (by decide) ?_
  refine lv_istore_n (lv' := [(1, .int 1), (0, .ref h0)]) hx hb dX8_sortMoments_1 rfl hl (by decide) rfl (fun ls hl => ?_)
  refine lv_iload_n hx hb dX8_sortMoments_2 rfl (lv_at hl 0 rfl) ?_
  refine lv_aload_n hx hb dX8_sortMoments_3 rfl (lv_at hl 1 rfl) ?_
  refine va_get (D := (dC, dI)) (ci := 8) (v := .int 0) (C := RX8) (T := TX8) (N := 5) hx hb hts inq_X8_sortMoments_c8 hown hK hP 0 rfl rfl 2 (by decide) (hts (.fieldLink RX8 22 "DiskEvidence$TimeLine" "momentCount" "I") (List.mem_of_getElem? (i := 1) rfl)) (fun _ h9 => h9) rfl dX8_sortMoments_4 ?_
  refine lv_icmp_ge (tgt := 108) hx hb dX8_sortMoments_7 (by decide) (fun _ => ?_) (fun c_1 => absurd (by decide) c_1)
  exact W.vret hx hb hr (fun t ht hW => ⟨rfl, trivial, ht⟩) (fun _ h => by cases h) dX8_sortMoments_108
def dq_X11_line : List Cond := [.fieldLink RX11 65 "DiskEvidence" "timeLine" "LDiskEvidence$TimeLine;", .fieldLink RX11 354 "DiskEvidence$TimeLine" "momentCount" "I", .fieldLink RX11 188 "DiskEvidence" "treeCount" "I", .methodLink RX11 368 yX8_sortMoments, .instanceMethod yX8_sortMoments, .selects RX8 yX8_sortMoments yX8_sortMoments, .initialized RX8]
def wq_X11_line : List Cond := .code yX11_line cX11_line 5 (some .int) :: (dq_X11_line ++ (wsX110 ++ (wsX80 ++ (wq_X8_sortMoments))))
theorem inq_X11_line_c11 : ∀ w ∈ wsX110, w ∈ wq_X11_line := fun w h => List.mem_cons_of_mem _ (List.mem_append_right _ (List.mem_append_left _ h))
theorem inq_X11_line_c8 : ∀ w ∈ wsX80, w ∈ wq_X11_line := fun w h => List.mem_cons_of_mem _ (List.mem_append_right _ (List.mem_append_right _ (List.mem_append_left _ h)))
theorem mq_X11_line_X8_sortMoments : ∀ w ∈ wq_X8_sortMoments, w ∈ wq_X11_line := fun w h => List.mem_cons_of_mem _ (List.mem_append_right _ (List.mem_append_right _ (List.mem_append_right _ (h))))
theorem ga_X11_line : wq_X11_line.all goodWord = true := by decide +kernel
theorem gq_X11_line_X8_sortMoments_368 : GoodIn wq_X11_line (wsV RX11 368 RX8 yX8_sortMoments wq_X8_sortMoments) := goodIn_app (goodIn_r _ [4, 5, 6, 7] (by decide +kernel) (by decide +kernel)) (goodIn_sub mq_X11_line_X8_sortMoments ga_X8_sortMoments)
theorem tdq_X11_line : ∀ w ∈ dq_X11_line, w ∈ lw_tbl := fun w h => (goodIn_r (big := lw_tbl) dq_X11_line [602, 571, 594, 2154, 2155, 2156, 295] (by decide +kernel) (by decide +kernel) w h).1
theorem tq_X11_line : ∀ w ∈ wq_X11_line, w ∈ lw_tbl := fun w h => (List.mem_cons.mp h).elim (fun e => by rw [e]; exact List.mem_of_getElem? (i := 2130) (by decide +kernel)) (fun h => (List.mem_append.mp h).elim (fun h => tdq_X11_line w h) (fun h => (List.mem_append.mp h).elim (fun h => nX11 w h) (fun h => (List.mem_append.mp h).elim (fun h => nX8 w h) (fun h => tq_X8_sortMoments w h))))
set_option maxHeartbeats 40000000 in
set_option maxRecDepth 100000 in
theorem c_X11_line (l : Launch) (dC : Nat → ClassId) (dI : Nat → Nat → Nat) (cI cB cZ cJ cC cP cV cT cO : ClassId) (sz : Nat) (h0 : Nat) (g : Nat → Nat) (tt : Nat → Nat)  : Met l yX11_line wq_X11_line ({ frames := 1, cells := 0, slots := 0, locals := 25 }) (va_Pc [.ref h0] (fun U => U.heap.size = sz ∧ va_P (dC, dI) vwCl [(h0, .inr (11, (fsX g))), ((g 16), .inr (8, (fs8 tt)))] U.heap ∧ va_K (dC, dI) vwCl [(cI, .int), (cB, .byte), (cZ, .boolean), (cJ, .long), (cC, .char), (cP, .object "DiskEvidence$Picture"), (cV, .object "DiskEvidence$Volume"), (cT, .object "DiskEvidence$Tree"), (cO, .object "DiskEvidence$Opening")] U ∧ va_D (fun _ => True) [(h0, .inr (11, (fsX g))), ((g 16), .inr (8, (fs8 tt)))])) (va_Qi (fun (r : Int32) (_ : Unit) => r = 0) (fun _ _ => True) (va_A [(h0, .inr (11, (fsX g))), ((g 16), .inr (8, (fs8 tt)))] sz)) 0 0 (va_A [(h0, .inr (11, (fsX g))), ((g 16), .inr (8, (fs8 tt)))] sz) := by
  refine Met.ofW (cc := cX11_line) (maxL := 5) (ret := (some .int)) (by decide) rfl ?_
  intro p e s m args below meth c s₁ B hml hv
  obtain ⟨rfl, hsz, hP, hK, hD0⟩ := hv
  have hx := B.exec
  have hb := B.bytes
  have hr := B.returns
  have hts := atoms_spec (ws := wq_X11_line) B.pre
  have hown : s.vm.findClass RX11 = some m.cls := findClass_of_methodNamed B.named
  have hlocks := B.notSynchronized
  subst hsz
  have hD := hD0.self (sz := s.heap.size)
  generalize hAe : va_A [(h0, .inr (11, (fsX g))), ((g 16), .inr (8, (fs8 tt)))] s.heap.size = A at hD ⊢
  have hA : ∀ q : Nat, s.heap.size ≤ q → A q := fun q h => by rw [← hAe]; exact Or.inr h
  have hS : va_S A s.heap s.heap [] := va_S.rf
  have hl := lv_entry ([.ref h0]) (n := 5) (Nat.le_of_ble_eq_true rfl)
  rw [lg_entry_eq]
  generalize (lg_sl ([.ref h0]) ++ List.replicate (5 - (lg_sl ([.ref h0])).length) Slot.unset).toArray = ls at hl ⊢
  have hl : lv_has ls 5 [(0, .ref h0)] := hl
  refine lv_aload_n hx hb dX11_line_0 rfl (lv_at hl 0 rfl) ?_
  refine va_get (D := (dC, dI)) (ci := 11) (v := .ref (g 16)) (C := RX11) (T := TX11) (N := 20) hx hb hts inq_X11_line_c11 hown hK hP 0 rfl rfl 16 (by decide) (hts (.fieldLink RX11 65 "DiskEvidence" "timeLine" "LDiskEvidence$TimeLine;") (List.mem_of_getElem? (i := 1) rfl)) (fun _ h9 => h9) rfl dX11_line_1 ?_
  refine lv_iconst (v := 0) hx hb dX11_line_4 (by decide) ?_
  refine va_put (D := (dC, dI)) (ci := 8) (v := .int 0) (ty := .int) (C := RX8) (T := TX8) (N := 5) hx hb hts inq_X11_line_c8 tyX8 tyX8_ok nmX8 hown hK hP hD hS 1 rfl rfl 2 (by decide) (hts (.fieldLink RX11 354 "DiskEvidence$TimeLine" "momentCount" "I") (List.mem_of_getElem? (i := 2) rfl)) (fun _ h9 => h9) rfl (by decide +kernel) rfl rfl (Nat.le_of_ble_eq_true rfl) dX11_line_5 (fun H locs hP hD hS => ?_)
  have hP : va_P (dC, dI) vwCl [(h0, .inr (11, (fsX g))), ((g 16), .inr (8, ((fs8 tt).set 2 (.int 0))))] H := hP
  have hD : va_D A [(h0, .inr (11, (fsX g))), ((g 16), .inr (8, ((fs8 tt).set 2 (.int 0))))] := hD
  refine lv_iconst (v := 0) hx hb dX11_line_8 (by decide) ?_
  refine lv_istore_n (lv' := [(1, .int 0), (0, .ref h0)]) hx hb dX11_line_9 rfl hl (by decide) rfl (fun ls hl => ?_)
  refine lv_iload_n hx hb dX11_line_10 rfl (lv_at hl 0 rfl) ?_
  refine lv_aload_n hx hb dX11_line_11 rfl (lv_at hl 1 rfl) ?_
  refine va_get (D := (dC, dI)) (ci := 11) (v := .int 0) (C := RX11) (T := TX11) (N := 20) hx hb hts inq_X11_line_c11 hown hK hP 0 rfl rfl 8 (by decide) (hts (.fieldLink RX11 188 "DiskEvidence" "treeCount" "I") (List.mem_of_getElem? (i := 3) rfl)) (fun _ h9 => h9) rfl dX11_line_12 ?_
  refine lv_icmp_ge (tgt := 98) hx hb dX11_line_15 (by decide) (fun _ => ?_) (fun c_1 => absurd (by decide) c_1)
  refine lv_aload_n hx hb dX11_line_98 rfl (lv_at hl 1 rfl) ?_
  refine va_get (D := (dC, dI)) (ci := 11) (v := .ref (g 16)) (C := RX11) (T := TX11) (N := 20) hx hb hts inq_X11_line_c11 hown hK hP 0 rfl rfl 16 (by decide) (hts (.fieldLink RX11 65 "DiskEvidence" "timeLine" "LDiskEvidence$TimeLine;") (List.mem_of_getElem? (i := 1) rfl)) (fun _ h9 => h9) rfl dX11_line_99 ?_
  have hPc := hP.sub (ws' := [((g 16), .inr (8, ((fs8 tt).set 2 (.int 0))))]) [1] rfl
  have hDc := hD.sub (ws' := [((g 16), .inr (8, ((fs8 tt).set 2 (.int 0))))]) [1] (by decide) rfl
  have hKc := hK
  refine va_csv (va_Run.run (va_runV (As := []) (rest := []) ⟨hx, hb, hml, hown, hts⟩ (c_X8_sortMoments l dC dI cI cB cZ cJ cC cP cV cT cO H.size (g 16) tt) (cwV 0 hts gq_X11_line_X8_sortMoments_368 rfl rfl rfl (by decide +kernel) ⟨Nat.le_of_ble_eq_true rfl, Nat.le_of_ble_eq_true rfl⟩) ⟨fun a U g mk q => by obtain ⟨q0, q1, qP, qK, qD⟩ := q; exact ⟨q0, q1, qP, va_K.moved (u := U) (U := U.calling g mk a) (Vm.Alike.refl U.vm) qK, qD⟩, va_recv hKc hPc (ci := 8) (q0 := 0) rfl rfl, fun U hU hW => ⟨rfl, by rw [hU], by rw [hU]; exact hPc, va_K.moved hW.alike hKc, hDc.weaken (fun _ _ _ _ => trivial)⟩⟩ rfl rfl hl.1 rfl (lv_room (Nat.le_of_ble_eq_true rfl)) dX11_line_102 ⟨Nat.le_of_ble_eq_true rfl, Nat.le_of_ble_eq_true rfl⟩)) (fun _ => ?_)
  refine lv_aload_n hx hb dX11_line_105 rfl (lv_at hl 1 rfl) ?_
  refine va_get (D := (dC, dI)) (ci := 11) (v := .ref (g 16)) (C := RX11) (T := TX11) (N := 20) hx hb hts inq_X11_line_c11 hown hK hP 0 rfl rfl 16 (by decide) (hts (.fieldLink RX11 65 "DiskEvidence" "timeLine" "LDiskEvidence$TimeLine;") (List.mem_of_getElem? (i := 1) rfl)) (fun _ h9 => h9) rfl dX11_line_106 ?_
  refine va_get (D := (dC, dI)) (ci := 8) (v := .int 0) (C := RX8) (T := TX8) (N := 5) hx hb hts inq_X11_line_c8 hown hK hP 1 rfl rfl 2 (by decide) (hts (.fieldLink RX11 354 "DiskEvidence$TimeLine" "momentCount" "I") (List.mem_of_getElem? (i := 2) rfl)) (fun _ h9 => h9) rfl dX11_line_109 ?_
  exact W.iret (v := 0) hx hb hr (fun t ht hW => ⟨⟨0, (), rfl, rfl, trivial⟩, hS.F ht⟩) hS.2.2 dX11_line_112
def dq_X12_line : List Cond := [.fieldLink RX12 1136 "DiskEvidenceModel" "moments" "I", .fieldLink RX12 794 "DiskEvidenceModel" "trees" "I", .fieldLink RX12 983 "DiskEvidenceModel" "opens" "I"]
def wq_X12_line : List Cond := .code yX12_line cX12_line 5 (some .int) :: (dq_X12_line ++ (wsX120))
theorem inq_X12_line_c12 : ∀ w ∈ wsX120, w ∈ wq_X12_line := fun w h => List.mem_cons_of_mem _ (List.mem_append_right _ (h))
theorem ga_X12_line : wq_X12_line.all goodWord = true := by decide +kernel
theorem tdq_X12_line : ∀ w ∈ dq_X12_line, w ∈ lw_tbl := fun w h => (goodIn_r (big := lw_tbl) dq_X12_line [2400, 2308, 2356] (by decide +kernel) (by decide +kernel) w h).1
theorem tq_X12_line : ∀ w ∈ wq_X12_line, w ∈ lw_tbl := fun w h => (List.mem_cons.mp h).elim (fun e => by rw [e]; exact List.mem_of_getElem? (i := 3651) (by decide +kernel)) (fun h => (List.mem_append.mp h).elim (fun h => tdq_X12_line w h) (fun h => nX12 w h))
set_option maxHeartbeats 40000000 in
set_option maxRecDepth 100000 in
theorem c_X12_line (l : Launch) (dC : Nat → ClassId) (dI : Nat → Nat → Nat) (cI cB cZ cJ cC cP cV cT cO : ClassId) (sz : Nat) (h0 : Nat) (g : Nat → Nat)   : Met l yX12_line wq_X12_line ({ frames := 0, cells := 0, slots := 0, locals := 0 }) (va_Pc [.ref h0] (fun U => U.heap.size = sz ∧ va_P (dC, dI) vwCl [(h0, .inr (12, (fsM g)))] U.heap ∧ va_K (dC, dI) vwCl [(cI, .int), (cB, .byte), (cZ, .boolean), (cJ, .long), (cC, .char), (cP, .object "DiskEvidence$Picture"), (cV, .object "DiskEvidence$Volume"), (cT, .object "DiskEvidence$Tree"), (cO, .object "DiskEvidence$Opening")] U ∧ va_D (fun _ => True) [(h0, .inr (12, (fsM g)))])) (va_Qi (fun (r : Int32) (_ : Unit) => r = 0) (fun _ _ => True) (va_A [(h0, .inr (12, (fsM g)))] sz)) 0 0 (va_A [(h0, .inr (12, (fsM g)))] sz) := by
  refine Met.ofW (cc := cX12_line) (maxL := 5) (ret := (some .int)) (by decide) rfl ?_
  intro p e s m args below meth c s₁ B hml hv
  obtain ⟨rfl, hsz, hP, hK, hD0⟩ := hv
  have hx := B.exec
  have hb := B.bytes
  have hr := B.returns
  have hts := atoms_spec (ws := wq_X12_line) B.pre
  have hown : s.vm.findClass RX12 = some m.cls := findClass_of_methodNamed B.named
  have hlocks := B.notSynchronized
  subst hsz
  have hD := hD0.self (sz := s.heap.size)
  generalize hAe : va_A [(h0, .inr (12, (fsM g)))] s.heap.size = A at hD ⊢
  have hA : ∀ q : Nat, s.heap.size ≤ q → A q := fun q h => by rw [← hAe]; exact Or.inr h
  have hS : va_S A s.heap s.heap [] := va_S.rf
  have hl := lv_entry ([.ref h0]) (n := 5) (Nat.le_of_ble_eq_true rfl)
  rw [lg_entry_eq]
  generalize (lg_sl ([.ref h0]) ++ List.replicate (5 - (lg_sl ([.ref h0])).length) Slot.unset).toArray = ls at hl ⊢
  have hl : lv_has ls 5 [(0, .ref h0)] := hl
  refine lv_aload_n hx hb dX12_line_0 rfl (lv_at hl 0 rfl) ?_
  refine lv_iconst (v := 0) hx hb dX12_line_1 (by decide) ?_
  refine va_put (D := (dC, dI)) (ci := 12) (v := .int 0) (ty := .int) (C := RX12) (T := TX12) (N := 172) hx hb hts inq_X12_line_c12 tyX12 tyX12_ok nmX12 hown hK hP hD hS 0 rfl rfl 151 (by decide) (hts (.fieldLink RX12 1136 "DiskEvidenceModel" "moments" "I") (List.mem_of_getElem? (i := 1) rfl)) (fun _ h9 => h9) rfl (by decide +kernel) rfl rfl (Nat.le_of_ble_eq_true rfl) dX12_line_2 (fun H locs hP hD hS => ?_)
  have hP : va_P (dC, dI) vwCl [(h0, .inr (12, ((fsM g).set 151 (.int 0))))] H := hP
  have hD : va_D A [(h0, .inr (12, ((fsM g).set 151 (.int 0))))] := hD
  refine lv_iconst (v := 0) hx hb dX12_line_5 (by decide) ?_
  refine lv_istore_n (lv' := [(1, .int 0), (0, .ref h0)]) hx hb dX12_line_6 rfl hl (by decide) rfl (fun ls hl => ?_)
  refine lv_iload_n hx hb dX12_line_7 rfl (lv_at hl 0 rfl) ?_
  refine lv_aload_n hx hb dX12_line_8 rfl (lv_at hl 1 rfl) ?_
  refine va_get (D := (dC, dI)) (ci := 12) (v := .int 0) (C := RX12) (T := TX12) (N := 172) hx hb hts inq_X12_line_c12 hown hK hP 0 rfl rfl 59 (by decide) (hts (.fieldLink RX12 794 "DiskEvidenceModel" "trees" "I") (List.mem_of_getElem? (i := 2) rfl)) (fun _ h9 => h9) rfl dX12_line_9 ?_
  refine lv_icmp_ge (tgt := 88) hx hb dX12_line_12 (by decide) (fun _ => ?_) (fun c_1 => absurd (by decide) c_1)
  refine lv_iconst (v := 0) hx hb dX12_line_88 (by decide) ?_
  refine lv_istore_n (lv' := [(1, .int 0), (0, .ref h0)]) hx hb dX12_line_89 rfl hl (by decide) rfl (fun ls hl => ?_)
  refine lv_iload_n hx hb dX12_line_90 rfl (lv_at hl 0 rfl) ?_
  refine lv_aload_n hx hb dX12_line_91 rfl (lv_at hl 1 rfl) ?_
  refine va_get (D := (dC, dI)) (ci := 12) (v := .int 0) (C := RX12) (T := TX12) (N := 172) hx hb hts inq_X12_line_c12 hown hK hP 0 rfl rfl 107 (by decide) (hts (.fieldLink RX12 983 "DiskEvidenceModel" "opens" "I") (List.mem_of_getElem? (i := 3) rfl)) (fun _ h9 => h9) rfl dX12_line_92 ?_
  refine lv_icmp_ge (tgt := 172) hx hb dX12_line_95 (by decide) (fun _ => ?_) (fun c_2 => absurd (by decide) c_2)
  refine lv_aload_n hx hb dX12_line_172 rfl (lv_at hl 1 rfl) ?_
  refine va_get (D := (dC, dI)) (ci := 12) (v := .int 0) (C := RX12) (T := TX12) (N := 172) hx hb hts inq_X12_line_c12 hown hK hP 0 rfl rfl 151 (by decide) (hts (.fieldLink RX12 1136 "DiskEvidenceModel" "moments" "I") (List.mem_of_getElem? (i := 1) rfl)) (fun _ h9 => h9) rfl dX12_line_173 ?_
  exact W.iret (v := 0) hx hb hr (fun t ht hW => ⟨⟨0, (), rfl, rfl, trivial⟩, hS.F ht⟩) hS.2.2 dX12_line_176
def dq_X11_doubts : List Cond := [.fieldLink RX11 65 "DiskEvidence" "timeLine" "LDiskEvidence$TimeLine;", .fieldLink RX11 375 "DiskEvidence$TimeLine" "doubtCount" "I", .fieldLink RX11 188 "DiskEvidence" "treeCount" "I"]
def wq_X11_doubts : List Cond := .code yX11_doubts cX11_doubts 2 (some .int) :: (dq_X11_doubts ++ (wsX110 ++ (wsX80)))
theorem inq_X11_doubts_c11 : ∀ w ∈ wsX110, w ∈ wq_X11_doubts := fun w h => List.mem_cons_of_mem _ (List.mem_append_right _ (List.mem_append_left _ h))
theorem inq_X11_doubts_c8 : ∀ w ∈ wsX80, w ∈ wq_X11_doubts := fun w h => List.mem_cons_of_mem _ (List.mem_append_right _ (List.mem_append_right _ (h)))
theorem ga_X11_doubts : wq_X11_doubts.all goodWord = true := by decide +kernel
theorem tdq_X11_doubts : ∀ w ∈ dq_X11_doubts, w ∈ lw_tbl := fun w h => (goodIn_r (big := lw_tbl) dq_X11_doubts [602, 574, 594] (by decide +kernel) (by decide +kernel) w h).1
theorem tq_X11_doubts : ∀ w ∈ wq_X11_doubts, w ∈ lw_tbl := fun w h => (List.mem_cons.mp h).elim (fun e => by rw [e]; exact List.mem_of_getElem? (i := 2170) (by decide +kernel)) (fun h => (List.mem_append.mp h).elim (fun h => tdq_X11_doubts w h) (fun h => (List.mem_append.mp h).elim (fun h => nX11 w h) (fun h => nX8 w h)))
set_option maxHeartbeats 40000000 in
set_option maxRecDepth 100000 in
theorem c_X11_doubts (l : Launch) (dC : Nat → ClassId) (dI : Nat → Nat → Nat) (cI cB cZ cJ cC cP cV cT cO : ClassId) (sz : Nat) (h0 : Nat) (g : Nat → Nat) (tt : Nat → Nat)  : Met l yX11_doubts wq_X11_doubts ({ frames := 0, cells := 0, slots := 0, locals := 0 }) (va_Pc [.ref h0] (fun U => U.heap.size = sz ∧ va_P (dC, dI) vwCl [(h0, .inr (11, (fsX g))), ((g 16), .inr (8, (fs8 tt)))] U.heap ∧ va_K (dC, dI) vwCl [(cI, .int), (cB, .byte), (cZ, .boolean), (cJ, .long), (cC, .char), (cP, .object "DiskEvidence$Picture"), (cV, .object "DiskEvidence$Volume"), (cT, .object "DiskEvidence$Tree"), (cO, .object "DiskEvidence$Opening")] U ∧ va_D (fun _ => True) [(h0, .inr (11, (fsX g))), ((g 16), .inr (8, (fs8 tt)))])) (va_Qi (fun (r : Int32) (_ : Unit) => r = 0) (fun _ _ => True) (va_A [(h0, .inr (11, (fsX g))), ((g 16), .inr (8, (fs8 tt)))] sz)) 0 0 (va_A [(h0, .inr (11, (fsX g))), ((g 16), .inr (8, (fs8 tt)))] sz) := by
  refine Met.ofW (cc := cX11_doubts) (maxL := 2) (ret := (some .int)) (by decide) rfl ?_
  intro p e s m args below meth c s₁ B hml hv
  obtain ⟨rfl, hsz, hP, hK, hD0⟩ := hv
  have hx := B.exec
  have hb := B.bytes
  have hr := B.returns
  have hts := atoms_spec (ws := wq_X11_doubts) B.pre
  have hown : s.vm.findClass RX11 = some m.cls := findClass_of_methodNamed B.named
  have hlocks := B.notSynchronized
  subst hsz
  have hD := hD0.self (sz := s.heap.size)
  generalize hAe : va_A [(h0, .inr (11, (fsX g))), ((g 16), .inr (8, (fs8 tt)))] s.heap.size = A at hD ⊢
  have hA : ∀ q : Nat, s.heap.size ≤ q → A q := fun q h => by rw [← hAe]; exact Or.inr h
  have hS : va_S A s.heap s.heap [] := va_S.rf
  have hl := lv_entry ([.ref h0]) (n := 2) (Nat.le_of_ble_eq_true rfl)
  rw [lg_entry_eq]
  generalize (lg_sl ([.ref h0]) ++ List.replicate (2 - (lg_sl ([.ref h0])).length) Slot.unset).toArray = ls at hl ⊢
  have hl : lv_has ls 2 [(0, .ref h0)] := hl
  refine lv_aload_n hx hb dX11_doubts_0 rfl (lv_at hl 0 rfl) ?_
  refine va_get (D := (dC, dI)) (ci := 11) (v := .ref (g 16)) (C := RX11) (T := TX11) (N := 20) hx hb hts inq_X11_doubts_c11 hown hK hP 0 rfl rfl 16 (by decide) (hts (.fieldLink RX11 65 "DiskEvidence" "timeLine" "LDiskEvidence$TimeLine;") (List.mem_of_getElem? (i := 1) rfl)) (fun _ h9 => h9) rfl dX11_doubts_1 ?_
  refine lv_iconst (v := 0) hx hb dX11_doubts_4 (by decide) ?_
  refine va_put (D := (dC, dI)) (ci := 8) (v := .int 0) (ty := .int) (C := RX8) (T := TX8) (N := 5) hx hb hts inq_X11_doubts_c8 tyX8 tyX8_ok nmX8 hown hK hP hD hS 1 rfl rfl 4 (by decide) (hts (.fieldLink RX11 375 "DiskEvidence$TimeLine" "doubtCount" "I") (List.mem_of_getElem? (i := 2) rfl)) (fun _ h9 => h9) rfl (by decide +kernel) rfl rfl (Nat.le_of_ble_eq_true rfl) dX11_doubts_5 (fun H locs hP hD hS => ?_)
  have hP : va_P (dC, dI) vwCl [(h0, .inr (11, (fsX g))), ((g 16), .inr (8, ((fs8 tt).set 4 (.int 0))))] H := hP
  have hD : va_D A [(h0, .inr (11, (fsX g))), ((g 16), .inr (8, ((fs8 tt).set 4 (.int 0))))] := hD
  refine lv_iconst (v := 0) hx hb dX11_doubts_8 (by decide) ?_
  refine lv_istore_n (lv' := [(1, .int 0), (0, .ref h0)]) hx hb dX11_doubts_9 rfl hl (by decide) rfl (fun ls hl => ?_)
  refine lv_iload_n hx hb dX11_doubts_10 rfl (lv_at hl 0 rfl) ?_
  refine lv_aload_n hx hb dX11_doubts_11 rfl (lv_at hl 1 rfl) ?_
  refine va_get (D := (dC, dI)) (ci := 11) (v := .int 0) (C := RX11) (T := TX11) (N := 20) hx hb hts inq_X11_doubts_c11 hown hK hP 0 rfl rfl 8 (by decide) (hts (.fieldLink RX11 188 "DiskEvidence" "treeCount" "I") (List.mem_of_getElem? (i := 3) rfl)) (fun _ h9 => h9) rfl dX11_doubts_12 ?_
  refine lv_icmp_ge (tgt := 42) hx hb dX11_doubts_15 (by decide) (fun _ => ?_) (fun c_1 => absurd (by decide) c_1)
  refine lv_aload_n hx hb dX11_doubts_42 rfl (lv_at hl 1 rfl) ?_
  refine va_get (D := (dC, dI)) (ci := 11) (v := .ref (g 16)) (C := RX11) (T := TX11) (N := 20) hx hb hts inq_X11_doubts_c11 hown hK hP 0 rfl rfl 16 (by decide) (hts (.fieldLink RX11 65 "DiskEvidence" "timeLine" "LDiskEvidence$TimeLine;") (List.mem_of_getElem? (i := 1) rfl)) (fun _ h9 => h9) rfl dX11_doubts_43 ?_
  refine va_get (D := (dC, dI)) (ci := 8) (v := .int 0) (C := RX8) (T := TX8) (N := 5) hx hb hts inq_X11_doubts_c8 hown hK hP 1 rfl rfl 4 (by decide) (hts (.fieldLink RX11 375 "DiskEvidence$TimeLine" "doubtCount" "I") (List.mem_of_getElem? (i := 2) rfl)) (fun _ h9 => h9) rfl dX11_doubts_46 ?_
  exact W.iret (v := 0) hx hb hr (fun t ht hW => ⟨⟨0, (), rfl, rfl, trivial⟩, hS.F ht⟩) hS.2.2 dX11_doubts_49
def dq_X12_doubts : List Cond := [.fieldLink RX12 1147 "DiskEvidenceModel" "doubts" "I", .fieldLink RX12 794 "DiskEvidenceModel" "trees" "I"]
def wq_X12_doubts : List Cond := .code yX12_doubts cX12_doubts 7 (some .int) :: (dq_X12_doubts ++ (wsX120))
theorem inq_X12_doubts_c12 : ∀ w ∈ wsX120, w ∈ wq_X12_doubts := fun w h => List.mem_cons_of_mem _ (List.mem_append_right _ (h))
theorem ga_X12_doubts : wq_X12_doubts.all goodWord = true := by decide +kernel
theorem tdq_X12_doubts : ∀ w ∈ dq_X12_doubts, w ∈ lw_tbl := fun w h => (goodIn_r (big := lw_tbl) dq_X12_doubts [2406, 2308] (by decide +kernel) (by decide +kernel) w h).1
theorem tq_X12_doubts : ∀ w ∈ wq_X12_doubts, w ∈ lw_tbl := fun w h => (List.mem_cons.mp h).elim (fun e => by rw [e]; exact List.mem_of_getElem? (i := 3667) (by decide +kernel)) (fun h => (List.mem_append.mp h).elim (fun h => tdq_X12_doubts w h) (fun h => nX12 w h))
set_option maxHeartbeats 40000000 in
set_option maxRecDepth 100000 in
theorem c_X12_doubts (l : Launch) (dC : Nat → ClassId) (dI : Nat → Nat → Nat) (cI cB cZ cJ cC cP cV cT cO : ClassId) (sz : Nat) (h0 : Nat) (g : Nat → Nat)   : Met l yX12_doubts wq_X12_doubts ({ frames := 0, cells := 0, slots := 0, locals := 0 }) (va_Pc [.ref h0] (fun U => U.heap.size = sz ∧ va_P (dC, dI) vwCl [(h0, .inr (12, (fsM g)))] U.heap ∧ va_K (dC, dI) vwCl [(cI, .int), (cB, .byte), (cZ, .boolean), (cJ, .long), (cC, .char), (cP, .object "DiskEvidence$Picture"), (cV, .object "DiskEvidence$Volume"), (cT, .object "DiskEvidence$Tree"), (cO, .object "DiskEvidence$Opening")] U ∧ va_D (fun _ => True) [(h0, .inr (12, (fsM g)))])) (va_Qi (fun (r : Int32) (_ : Unit) => r = 0) (fun _ _ => True) (va_A [(h0, .inr (12, (fsM g)))] sz)) 0 0 (va_A [(h0, .inr (12, (fsM g)))] sz) := by
  refine Met.ofW (cc := cX12_doubts) (maxL := 7) (ret := (some .int)) (by decide) rfl ?_
  intro p e s m args below meth c s₁ B hml hv
  obtain ⟨rfl, hsz, hP, hK, hD0⟩ := hv
  have hx := B.exec
  have hb := B.bytes
  have hr := B.returns
  have hts := atoms_spec (ws := wq_X12_doubts) B.pre
  have hown : s.vm.findClass RX12 = some m.cls := findClass_of_methodNamed B.named
  have hlocks := B.notSynchronized
  subst hsz
  have hD := hD0.self (sz := s.heap.size)
  generalize hAe : va_A [(h0, .inr (12, (fsM g)))] s.heap.size = A at hD ⊢
  have hA : ∀ q : Nat, s.heap.size ≤ q → A q := fun q h => by rw [← hAe]; exact Or.inr h
  have hS : va_S A s.heap s.heap [] := va_S.rf
  have hl := lv_entry ([.ref h0]) (n := 7) (Nat.le_of_ble_eq_true rfl)
  rw [lg_entry_eq]
  generalize (lg_sl ([.ref h0]) ++ List.replicate (7 - (lg_sl ([.ref h0])).length) Slot.unset).toArray = ls at hl ⊢
  have hl : lv_has ls 7 [(0, .ref h0)] := hl
  refine lv_aload_n hx hb dX12_doubts_0 rfl (lv_at hl 0 rfl) ?_
  refine lv_iconst (v := 0) hx hb dX12_doubts_1 (by decide) ?_
  refine va_put (D := (dC, dI)) (ci := 12) (v := .int 0) (ty := .int) (C := RX12) (T := TX12) (N := 172) hx hb hts inq_X12_doubts_c12 tyX12 tyX12_ok nmX12 hown hK hP hD hS 0 rfl rfl 157 (by decide) (hts (.fieldLink RX12 1147 "DiskEvidenceModel" "doubts" "I") (List.mem_of_getElem? (i := 1) rfl)) (fun _ h9 => h9) rfl (by decide +kernel) rfl rfl (Nat.le_of_ble_eq_true rfl) dX12_doubts_2 (fun H locs hP hD hS => ?_)
  have hP : va_P (dC, dI) vwCl [(h0, .inr (12, ((fsM g).set 157 (.int 0))))] H := hP
  have hD : va_D A [(h0, .inr (12, ((fsM g).set 157 (.int 0))))] := hD
  refine lv_iconst (v := 0) hx hb dX12_doubts_5 (by decide) ?_
  refine lv_istore_n (lv' := [(1, .int 0), (0, .ref h0)]) hx hb dX12_doubts_6 rfl hl (by decide) rfl (fun ls hl => ?_)
  refine lv_iload_n hx hb dX12_doubts_7 rfl (lv_at hl 0 rfl) ?_
  refine lv_aload_n hx hb dX12_doubts_8 rfl (lv_at hl 1 rfl) ?_
  refine va_get (D := (dC, dI)) (ci := 12) (v := .int 0) (C := RX12) (T := TX12) (N := 172) hx hb hts inq_X12_doubts_c12 hown hK hP 0 rfl rfl 59 (by decide) (hts (.fieldLink RX12 794 "DiskEvidenceModel" "trees" "I") (List.mem_of_getElem? (i := 2) rfl)) (fun _ h9 => h9) rfl dX12_doubts_9 ?_
  refine lv_icmp_ge (tgt := 181) hx hb dX12_doubts_12 (by decide) (fun _ => ?_) (fun c_1 => absurd (by decide) c_1)
  refine lv_aload_n hx hb dX12_doubts_181 rfl (lv_at hl 1 rfl) ?_
  refine va_get (D := (dC, dI)) (ci := 12) (v := .int 0) (C := RX12) (T := TX12) (N := 172) hx hb hts inq_X12_doubts_c12 hown hK hP 0 rfl rfl 157 (by decide) (hts (.fieldLink RX12 1147 "DiskEvidenceModel" "doubts" "I") (List.mem_of_getElem? (i := 1) rfl)) (fun _ h9 => h9) rfl dX12_doubts_182 ?_
  exact W.iret (v := 0) hx hb hr (fun t ht hW => ⟨⟨0, (), rfl, rfl, trivial⟩, hS.F ht⟩) hS.2.2 dX12_doubts_185
