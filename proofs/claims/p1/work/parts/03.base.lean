theorem nw_P0 {D : va_G} {cl : List vw_C} {H : Heap} : va_P D cl [] H := fun k q h => by simp at h
theorem nw_D0 {A : Nat → Prop} : va_D A [] := ⟨fun i j p q h => by simp at h, fun k q h => by simp at h⟩
theorem nw_ra {s : State} {ty : FieldType} {a b : ClassId} (h1 : va_RA s a ty) (h2 : va_RA s b ty) : a = b := by
  cases ty with
  | object C =>
    obtain ⟨_, _, _, _, _, h1⟩ := h1
    obtain ⟨_, _, _, _, _, h2⟩ := h2
    exact Option.some.inj (h1.symm.trans h2)
  | _ => exact Option.some.inj (h1.symm.trans h2)
theorem nw_last {D : va_G} {cl : List vw_C} {tys : List (ClassId × FieldType)} {s : State} {cA cI : ClassId} {ty : FieldType} {t0 : Nat} (hK : va_K D cl tys s) (ht : tys[t0]? = some (cI, ty)) (hK' : va_K D cl (tys ++ [(cA, ty)]) s) : cA = cI :=
  nw_ra (hK'.2 tys.length (cA, ty) (by simp)).2 (hK.2 t0 (cI, ty) ht).2
section NWA
variable {p : Program} {l : Launch} {e : Env} {R : Room} {s : State} {m : MethodId} {args : Array Value} {below : List Frame} {meth : Method} {c : Code} {H : Heap} {locs : List Loc} {cells slots : Nat} {Q : State → Prop}
variable {D : va_G} {cl : List vw_C} {tys : List (ClassId × FieldType)} {ws : va_W} {A : Nat → Prop} {H0 : Heap} {pc : Nat} {ls : Array Slot} {rest : List Value}
theorem nw_arr {cc : ByteArray} {atype : ArrayType} {ty : FieldType} {n : Int32} {N' : Nat} {a0 : vp_A} (hexec : p.tables.exec = Jvm.exec) (hb : c.code = cc) (harr : (Cond.arrayClass (newarray.typeOf atype)).before args s = true) (hty : newarray.typeOf atype = ty) (hK : va_K D cl tys s) (t0 : Nat) {cI : ClassId} (ht : tys[t0]? = some (cI, ty))
    (hP : va_P D cl ws H) (hD : va_D A ws) (hS : va_S A H0 H locs) (hA : ∀ q, H0.size ≤ q → A q) (ha : ∀ cA : ClassId, vp_cell cA a0 = arrV cA N' (fun _ => defaultValue ty)) (hn : ¬ n < 0) (hN : n.toNatClampNeg = N') (hbytes : N' * componentBytes ty ≤ 536870912) (hcells : cells + 1 ≤ R.cells) (hslots : slots + N' ≤ R.slots) (hdg : decode cc pc = .ok (.newarray atype, 2))
    (kk : ∀ (q : Nat) (H1 : Heap), va_P D cl (ws ++ [(q, .inl (cI, a0))]) H1 → va_D A (ws ++ [(q, .inl (cI, a0))]) → va_S A H0 H1 locs →
      W p l e R s m args below meth c H1 locs (cells + 1) (slots + N') Q (F0 m (pc + 2) ls (.ref q :: rest))) : W p l e R s m args below meth c H locs cells slots Q (F0 m pc ls (.int n :: rest)) := by
  refine va_newa hexec hb harr hty hK hP hD hS hA ha hn hN hbytes hcells hslots hdg (fun q cA H1 hK' hP' hD' hS' => ?_)
  obtain rfl := nw_last hK ht hK'
  exact kk q H1 hP' hD' hS'
theorem nw_arrq {cc : ByteArray} {own C : String} {index : Nat} {n : Int32} {N' : Nat} (hexec : p.tables.exec = Jvm.exec) (hb : c.code = cc) (hown : s.vm.findClass own = some m.cls) (hclink : (Cond.classLink own index C).before args s = true) (hover : va_AO C s) (hK : va_K D cl tys s) (t0 : Nat) {cI : ClassId} (ht : tys[t0]? = some (cI, .object C))
    (hP : va_P D cl ws H) (hD : va_D A ws) (hS : va_S A H0 H locs) (hA : ∀ q, H0.size ≤ q → A q) (hn : ¬ n < 0) (hN : n.toNatClampNeg = N') (hbytes : N' * 4 ≤ 536870912) (hcells : cells + 1 ≤ R.cells) (hslots : slots + N' ≤ R.slots) (hdg : decode cc pc = .ok (.anewarray index, 3))
    (kk : ∀ (q : Nat) (H1 : Heap), va_P D cl (ws ++ [(q, .inl (cI, N', .inr (.inr (.inr (.inr (fun _ => none))))))]) H1 → va_D A (ws ++ [(q, .inl (cI, N', .inr (.inr (.inr (.inr (fun _ => none))))))]) → va_S A H0 H1 locs →
      W p l e R s m args below meth c H1 locs (cells + 1) (slots + N') Q (F0 m (pc + 3) ls (.ref q :: rest))) : W p l e R s m args below meth c H locs cells slots Q (F0 m pc ls (.int n :: rest)) := by
  refine va_newq hexec hb hown hclink hover hK hP hD hS hA hn hN hbytes hcells hslots hdg (fun q cA H1 hK' hP' hD' hS' => ?_)
  obtain rfl := nw_last hK ht hK'
  exact kk q H1 hP' hD' hS'
/-- a loop: the invariant at n gives the run, if that at 0 does and that at d + 1 does by that at d -/
theorem nw_loop (I : Nat → Heap → List Loc → Array Slot → Prop) (n : Nat)
    (h0 : ∀ (H : Heap) (locs : List Loc) (ls : Array Slot), I 0 H locs ls → W p l e R s m args below meth c H locs cells slots Q (F0 m pc ls rest))
    (hs : ∀ d : Nat, (∀ (H : Heap) (locs : List Loc) (ls : Array Slot), I d H locs ls → W p l e R s m args below meth c H locs cells slots Q (F0 m pc ls rest)) → ∀ (H : Heap) (locs : List Loc) (ls : Array Slot), I (d + 1) H locs ls → W p l e R s m args below meth c H locs cells slots Q (F0 m pc ls rest)) :
    ∀ (H : Heap) (locs : List Loc) (ls : Array Slot), I n H locs ls → W p l e R s m args below meth c H locs cells slots Q (F0 m pc ls rest) := by
  induction n with
  | zero => exact h0
  | succ d ih => exact hs d ih
end NWA
theorem sw_cases (hi : Nat) (x : Int32) : (x.toInt < 0 ∨ (hi : Int) < x.toInt) ∨ ∃ j : Nat, j ≤ hi ∧ x = nI j := by
  by_cases h1 : x.toInt < 0
  · exact Or.inl (Or.inl h1)
  · by_cases h2 : (hi : Int) < x.toInt
    · exact Or.inl (Or.inr h2)
    · have hx : ¬ x < 0 := by
        rw [Int32.lt_iff_toInt_lt, Int32.toInt_zero]; exact h1
      obtain ⟨j, hj, rfl⟩ := nI_of hx
      refine Or.inr ⟨j, ?_, rfl⟩
      rw [nI_toInt hj] at h2
      omega
theorem cmp_lt (x y : Int64) : lg_cmp x y < 0 ↔ x < y := by
  unfold lg_cmp
  by_cases h1 : y < x
  · simp only [h1, if_true]
    exact ⟨fun h => absurd h (by decide), fun h => absurd h (Int64.not_lt.mpr (Int64.le_of_lt h1))⟩
  · by_cases h2 : x = y
    · subst h2
      simp only [h1, if_false, if_true]
      exact ⟨fun h => absurd h (by decide), fun h => absurd h (by simp)⟩
    · simp only [h1, h2, if_false]
      exact ⟨fun _ => by
        rcases Int64.lt_or_eq_of_le (Int64.not_lt.mp h1) with h | h
        · exact h
        · exact absurd h h2, fun _ => by decide⟩
theorem cmp_gt (x y : Int64) : 0 < lg_cmp x y ↔ y < x := by
  unfold lg_cmp
  by_cases h1 : y < x
  · simp only [h1, if_true]
    exact ⟨fun _ => trivial, fun _ => by decide⟩
  · by_cases h2 : x = y
    · subst h2
      simp only [h1, if_false, if_true]
      exact ⟨fun h => absurd h (by decide), fun h => absurd h (by simp)⟩
    · simp only [h1, h2, if_false]
      exact ⟨fun h => absurd h (by decide), fun h => absurd h (by simp)⟩
theorem nw_ty_int {args : Array Value} {s : State} (h : (Cond.arrayClass .int).before args s = true) : ∃ cA : ClassId, ArrOfT s cA .int ∧ va_RA s cA .int := by
  obtain ⟨c, k, comp, h1, h2, h3⟩ := Cond.arrayClass_spec h
  exact ⟨c, fun n z => ⟨fun k h => (by cases h), k, h2, comp, h3⟩, h1⟩
theorem nw_ty_byte {args : Array Value} {s : State} (h : (Cond.arrayClass .byte).before args s = true) : ∃ cA : ClassId, ArrOfT s cA .byte ∧ va_RA s cA .byte := by
  obtain ⟨c, k, comp, h1, h2, h3⟩ := Cond.arrayClass_spec h
  exact ⟨c, fun n z => ⟨fun k h => (by cases h), k, h2, comp, h3⟩, h1⟩
theorem nw_ty_boolean {args : Array Value} {s : State} (h : (Cond.arrayClass .boolean).before args s = true) : ∃ cA : ClassId, ArrOfT s cA .boolean ∧ va_RA s cA .boolean := by
  obtain ⟨c, k, comp, h1, h2, h3⟩ := Cond.arrayClass_spec h
  exact ⟨c, fun n z => ⟨fun k h => (by cases h), k, h2, comp, h3⟩, h1⟩
theorem nw_ty_long {args : Array Value} {s : State} (h : (Cond.arrayClass .long).before args s = true) : ∃ cA : ClassId, ArrOfT s cA .long ∧ va_RA s cA .long := by
  obtain ⟨c, k, comp, h1, h2, h3⟩ := Cond.arrayClass_spec h
  exact ⟨c, fun n z => ⟨fun k h => (by cases h), k, h2, comp, h3⟩, h1⟩
theorem nw_ty_char {args : Array Value} {s : State} (h : (Cond.arrayClass .char).before args s = true) : ∃ cA : ClassId, ArrOfT s cA .char ∧ va_RA s cA .char := by
  obtain ⟨c, k, comp, h1, h2, h3⟩ := Cond.arrayClass_spec h
  exact ⟨c, fun n z => ⟨fun k h => (by cases h), k, h2, comp, h3⟩, h1⟩
theorem nw_ty_obj {C : String} {s : State} (h : va_AO C s) : ∃ cA : ClassId, ArrOfT s cA (.object C) ∧ va_RA s cA (.object C) := by
  obtain ⟨comp, c, k, h1, h2, h3, h4, h5⟩ := Cond.arrayOver_spec h
  exact ⟨c, fun n z => ⟨fun k h => (by cases h), k, h3, comp, h4⟩, k, comp, h3, h4, h1, h5⟩
theorem nX0 : ∀ w ∈ wsX00, w ∈ lw_tbl := fun w h => (goodIn_r (big := lw_tbl) wsX00 [497, 499, 501, 503, 505, 507, 509, 511, 513, 515] (by decide +kernel) (by decide +kernel) w h).1
theorem nX1 : ∀ w ∈ wsX10, w ∈ lw_tbl := fun w h => (goodIn_r (big := lw_tbl) wsX10 [384, 386, 388, 390, 392, 394, 396, 398, 400, 402, 404, 406, 408, 410, 412, 414, 416, 418] (by decide +kernel) (by decide +kernel) w h).1
theorem nX2 : ∀ w ∈ wsX20, w ∈ lw_tbl := fun w h => (goodIn_r (big := lw_tbl) wsX20 [1448, 1450, 1452, 1454, 1456, 1458, 1460, 1462, 1464, 1466, 1468, 1470, 1472, 1474, 1476] (by decide +kernel) (by decide +kernel) w h).1
theorem nX3 : ∀ w ∈ wsX30, w ∈ lw_tbl := fun w h => (goodIn_r (big := lw_tbl) wsX30 [445, 447, 449, 451, 453, 455, 457, 459, 461, 463, 465, 467, 469, 471, 473, 475] (by decide +kernel) (by decide +kernel) w h).1
theorem nX4 : ∀ w ∈ wsX40, w ∈ lw_tbl := fun w h => (goodIn_r (big := lw_tbl) wsX40 [1645, 1647, 1649, 1651, 1653, 1655, 1657, 1659, 1661, 1663] (by decide +kernel) (by decide +kernel) w h).1
theorem nX5 : ∀ w ∈ wsX50, w ∈ lw_tbl := fun w h => (goodIn_r (big := lw_tbl) wsX50 [680, 682, 684, 686, 688, 690, 692] (by decide +kernel) (by decide +kernel) w h).1
theorem nX6 : ∀ w ∈ wsX60, w ∈ lw_tbl := fun w h => (goodIn_r (big := lw_tbl) wsX60 [538, 540, 542, 544, 546, 548, 550, 552, 554, 556, 558] (by decide +kernel) (by decide +kernel) w h).1
theorem nX7 : ∀ w ∈ wsX70, w ∈ lw_tbl := fun w h => (goodIn_r (big := lw_tbl) wsX70 [1341, 1343, 1345, 1347, 1349, 1351, 1353, 1355] (by decide +kernel) (by decide +kernel) w h).1
theorem nX8 : ∀ w ∈ wsX80, w ∈ lw_tbl := fun w h => (goodIn_r (big := lw_tbl) wsX80 [575, 577, 579, 581, 583] (by decide +kernel) (by decide +kernel) w h).1
theorem nX9 : ∀ w ∈ wsX90, w ∈ lw_tbl := fun w h => (goodIn_r (big := lw_tbl) wsX90 [1301, 1303, 1305, 1307, 1309, 1311, 1313, 1315, 1317, 1319, 1321, 1323] (by decide +kernel) (by decide +kernel) w h).1
theorem nX10 : ∀ w ∈ wsX100, w ∈ lw_tbl := fun w h => (goodIn_r (big := lw_tbl) wsX100 [836, 838, 840, 842, 844, 846, 848, 850] (by decide +kernel) (by decide +kernel) w h).1
theorem nX11 : ∀ w ∈ wsX110, w ∈ lw_tbl := fun w h => (goodIn_r (big := lw_tbl) wsX110 [606, 608, 610, 612, 614, 616, 618, 620, 622, 624, 626, 628, 630, 632, 634, 636, 638, 640, 642, 644] (by decide +kernel) (by decide +kernel) w h).1
theorem nX12 : ∀ w ∈ wsX120, w ∈ lw_tbl := fun w h => (goodIn_r (big := lw_tbl) wsX120 [2421, 2423, 2425, 2427, 2429, 2431, 2433, 2435, 2437, 2439, 2441, 2443, 2445, 2447, 2449, 2451, 2453, 2455, 2457, 2459, 2461, 2463, 2465, 2467, 2469, 2471, 2473, 2475, 2477, 2479, 2481, 2483, 2485, 2487, 2489, 2491, 2493, 2495, 2497, 2499, 2501, 2503, 2505, 2507, 2509, 2511, 2513, 2515, 2517, 2519, 2521, 2523, 2525, 2527, 2529, 2531, 2533, 2535, 2537, 2539, 2541, 2543, 2545, 2547, 2549, 2551, 2553, 2555, 2557, 2559, 2561, 2563, 2565, 2567, 2569, 2571, 2573, 2575, 2577, 2579, 2581, 2583, 2585, 2587, 2589, 2591, 2593, 2595, 2597, 2599, 2601, 2603, 2605, 2607, 2609, 2611, 2613, 2615, 2617, 2619, 2621, 2623, 2625, 2627, 2629, 2631, 2633, 2635, 2637, 2639, 2641, 2643, 2645, 2647, 2649, 2651, 2653, 2655, 2657, 2659, 2661, 2663, 2665, 2667, 2669, 2671, 2673, 2675, 2677, 2679, 2681, 2683, 2685, 2687, 2689, 2691, 2693, 2695, 2697, 2699, 2701, 2703, 2705, 2707, 2709, 2711, 2713, 2715, 2717, 2719, 2721, 2723, 2725, 2727, 2729, 2731, 2733, 2735, 2737, 2739, 2741, 2743, 2745, 2747, 2749, 2751, 2753, 2755, 2757, 2759, 2761, 2763] (by decide +kernel) (by decide +kernel) w h).1
/-- the class's fields as they are at first -/
def fsX (g : Nat → Nat) : List Value := [.ref (g 0), .int 0, .int 0, .ref (g 3), .int 0, .ref (g 5), .int 0, .ref (g 7), .int 0, .ref (g 9), .int 0, .ref (g 11), .int 0, .ref (g 13), .ref (g 14), .ref (g 15), .ref (g 16), .ref (g 17), .ref (g 18), .int 0]
/-- the reference's -/
def fsM (g : Nat → Nat) : List Value := [.int 0, .ref (g 1), .int 0, .int 0, .ref (g 4), .ref (g 5), .ref (g 6), .int 0, .ref (g 8), .ref (g 9), .ref (g 10), .ref (g 11), .ref (g 12), .ref (g 13), .ref (g 14), .int 1, .int 0, .ref (g 17), .ref (g 18), .int 0, .int 0, .ref (g 21), .ref (g 22), .ref (g 23), .ref (g 24), .ref (g 25), .int 0, .ref (g 27), .ref (g 28), .int 0, .int 0, .ref (g 31), .ref (g 32), .ref (g 33), .int 0, .ref (g 35), .ref (g 36), .ref (g 37), .ref (g 38), .int 0, .int 0, .int 0, .int 0, .int 0, .int 0, .int 0, .int 0, .int 0, .int 0, .int 0, .ref (g 50), .ref (g 51), .int 0, .int 0, .ref (g 54), .int 0, .int 0, .int 0, .int 0, .int 0, .ref (g 60), .ref (g 61), .ref (g 62), .ref (g 63), .ref (g 64), .ref (g 65), .ref (g 66), .ref (g 67), .ref (g 68), .ref (g 69), .ref (g 70), .ref (g 71), .ref (g 72), .ref (g 73), .ref (g 74), .ref (g 75), .ref (g 76), .ref (g 77), .ref (g 78), .ref (g 79), .ref (g 80), .ref (g 81), .ref (g 82), .ref (g 83), .ref (g 84), .ref (g 85), .ref (g 86), .ref (g 87), .ref (g 88), .ref (g 89), .ref (g 90), .int 0, .int 0, .int 0, .ref (g 94), .ref (g 95), .ref (g 96), .int 0, .ref (g 98), .ref (g 99), .ref (g 100), .ref (g 101), .int 0, .ref (g 103), .ref (g 104), .ref (g 105), .int 0, .int 0, .int 0, .int 0, .int 0, .ref (g 111), .ref (g 112), .ref (g 113), .ref (g 114), .ref (g 115), .ref (g 116), .ref (g 117), .ref (g 118), .ref (g 119), .int 0, .ref (g 121), .int 0, .ref (g 123), .int 0, .ref (g 125), .ref (g 126), .ref (g 127), .int 0, .int 0, .ref (g 130), .ref (g 131), .ref (g 132), .ref (g 133), .ref (g 134), .int 0, .int 0, .int 0, .ref (g 138), .int 0, .ref (g 140), .int 0, .ref (g 142), .ref (g 143), .ref (g 144), .ref (g 145), .int 0, .int 0, .ref (g 148), .int 0, .ref (g 150), .int 0, .ref (g 152), .ref (g 153), .ref (g 154), .ref (g 155), .ref (g 156), .int 0, .ref (g 158), .ref (g 159), .ref (g 160), .int 0, .ref (g 162), .ref (g 163), .ref (g 164), .ref (g 165), .ref (g 166), .int 0, .ref (g 168), .ref (g 169), .ref (g 170), .ref (g 171)]
def fs0 (g : Nat → Nat) : List Value := [.ref (g 0), .int 0, .ref (g 2), .int 0, .ref (g 4), .int 0, .int 0, .int 0, .int 0, .ref (g 9)]
def fs6 (g : Nat → Nat) : List Value := [.ref (g 0), .int 0, .ref (g 2), .ref (g 3), .int 0, .ref (g 5), .int 0, .int 0, .int 0, .int 0, .int 0]
def fs8 (g : Nat → Nat) : List Value := [.ref (g 0), .ref (g 1), .int 0, .ref (g 3), .int 0]
def tickS (p : Int32) : Int32 := if 0 ≤ p ∧ p ≤ 1000000000 then p else -2
def collS (p : Int32) : Int32 := if 1 ≤ p ∧ p ≤ 8 then p else -2
def blankS (p : Int32) : Int32 := if 1 ≤ p ∧ p ≤ 128 then 0 else -2
def countS (p : Int32) : Int32 := if p.toInt < 0 ∨ (9 : Int) < p.toInt then -2 else 0
theorem le64 (a b : Int32) : a.toInt64 ≤ b.toInt64 ↔ a ≤ b := by
  rw [Int64.le_iff_toInt_le, Int32.le_iff_toInt_le, Int32.toInt_toInt64, Int32.toInt_toInt64]
theorem i64_0 : (0 : Int64) = (0 : Int32).toInt64 := by decide
theorem i64_1 : (1 : Int64) = (1 : Int32).toInt64 := by decide
theorem i64_8 : (8 : Int64) = (8 : Int32).toInt64 := by decide
theorem i64_128 : (128 : Int64) = (128 : Int32).toInt64 := by decide
theorem i64_G : (1000000000 : Int64) = (1000000000 : Int32).toInt64 := by decide
theorem in_tick {p : Int32} : (0 ≤ p.toInt64 ∧ p.toInt64 ≤ 1000000000) ↔ (0 ≤ p ∧ p ≤ 1000000000) := by rw [i64_0, i64_G, le64, le64]
theorem in_coll {p : Int32} : (1 ≤ p.toInt64 ∧ p.toInt64 ≤ 8) ↔ (1 ≤ p ∧ p ≤ 8) := by rw [i64_1, i64_8, le64, le64]
theorem in_blank {p : Int32} : (1 ≤ p.toInt64 ∧ p.toInt64 ≤ 128) ↔ (1 ≤ p ∧ p ≤ 128) := by rw [i64_1, i64_128, le64, le64]
theorem far_tick {p : Int32} (h : p ≤ 1000000000) : ¬ (2000000000 : Int64) < 0 + p.toInt64 := by
  have e : (2000000000 : Int64) = (2000000000 : Int32).toInt64 := by decide
  rw [Int64.zero_add, Int64.not_lt, e, le64]
  exact Int32.le_trans h (by decide)
theorem upto {x M : Int32} {n : Nat} (hM : M.toInt = n) (h1 : 1 ≤ x) (h2 : x ≤ M) : ∃ j : Nat, j ≤ n ∧ x = nI j := nI_of2 hM (Int32.not_lt.mpr (Int32.le_trans (by decide) h1)) h2
def pick (l : List Nat) : Nat → Nat := fun i => l.getD i 0
def df12 : List Value := [.int 0, .null, .int 0, .int 0, .null, .null, .null, .int 0, .null, .null, .null, .null, .null, .null, .null, .int 0, .int 0, .null, .null, .int 0, .int 0, .null, .null, .null, .null, .null, .int 0, .null, .null, .int 0, .int 0, .null, .null, .null, .int 0, .null, .null, .null, .null, .int 0, .int 0, .int 0, .int 0, .int 0, .int 0, .int 0, .int 0, .int 0, .int 0, .int 0, .null, .null, .int 0, .int 0, .null, .int 0, .int 0, .int 0, .int 0, .int 0, .null, .null, .null, .null, .null, .null, .null, .null, .null, .null, .null, .null, .null, .null, .null, .null, .null, .null, .null, .null, .null, .null, .null, .null, .null, .null, .null, .null, .null, .null, .null, .int 0, .int 0, .int 0, .null, .null, .null, .int 0, .null, .null, .null, .null, .int 0, .null, .null, .null, .int 0, .int 0, .int 0, .int 0, .int 0, .null, .null, .null, .null, .null, .null, .null, .null, .null, .int 0, .null, .int 0, .null, .int 0, .null, .null, .null, .int 0, .int 0, .null, .null, .null, .null, .null, .int 0, .int 0, .int 0, .null, .int 0, .null, .int 0, .null, .null, .null, .null, .int 0, .int 0, .null, .int 0, .null, .int 0, .null, .null, .null, .null, .null, .int 0, .null, .null, .null, .int 0, .null, .null, .null, .null, .null, .int 0, .null, .null, .null, .null]
theorem df12_len : df12.length = 172 := by decide +kernel
