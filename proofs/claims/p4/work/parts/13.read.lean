section SVI
variable {p : Program} {l : Launch} {e : Env} {R : Room} {s : State} {m : MethodId} {args : Array Value} {below : List Frame} {meth : Method} {c : Code} {Q : State → Prop}
variable {P : Nat → List Nat → List Int → (Nat → Nat) → Heap → Prop} {D : va_G} {AC : Nat → ClassId} {kd : List SvK} {B0 : Nat} {κ0 : Nat → Nat} {mF mA : List Nat} {Px : List Int → Prop} {nL : Nat} {cc : ByteArray} {pc n : Nat} {w w' : List Nat} {S : SvS} {r : List (SvS × Nat)}
theorem sv_gf_ok (hPx : ∀ ρ τ, Px ρ → Px (ρ ++ τ)) (hx : p.tables.exec = Jvm.exec) (hb : c.code = cc) {lkG : List (Nat × Nat × Nat)} (hG : ∀ idx ci f, (idx, (ci, f)) ∈ lkG → sv_LkG s m args D idx ci f) {idx : Nat} (hd : decode cc pc = .ok (.getfield idx, 3)) (h : sv_gf lkG kd S idx pc w = some (r, w')) (hk : ∀ q ∈ r, sv_Good p l e R s m args below meth c Q P D AC kd B0 κ0 mF mA Px nL q.1 q.2) : sv_Good p l e R s m args below meth c Q P D AC kd B0 κ0 mF mA Px nL S pc := by
  unfold sv_gf at h
  split at h
  · rename_i ra rest ci f j md w1 hst hlk
    obtain ⟨own, ref, name, desc, cf, fi, kf, fd, l1, l2, l3, l4, l5⟩ := hG _ _ _ (sv_lk_ok hlk)
    split at h
    · rename_i K hkf
      split at h
      · rename_i k hkd
        split at h
        · rename_i T hT
          cases hq : (sv_nonn S.1 ra && Nat.beq k.1 0 && Nat.beq k.2.1 ci && sv_tok T) with
          | false => simp only [hq, cond_false] at h; cases h
          | true =>
            simp only [hq, cond_true] at h
            simp only [Bool.and_eq_true] at hq
            obtain ⟨⟨⟨q1, q2⟩, q3⟩, q4⟩ := hq
            have q2 := Nat.eq_of_beq_eq_true q2
            have q3 := Nat.eq_of_beq_eq_true q3
            subst q3
            have hlt : f < k.2.2.1.length := by
              rw [sv_nth_eq] at hT
              exact (List.getElem?_eq_some_iff.mp hT).1
            -- the cell and the value
            have key : ∀ (κ : Nat → Nat) (H : Heap) (locs : List Loc) (ρ : List Int) (ls : Array Slot) (st : List Value), sv_Inv s D AC kd B0 κ0 mF mA κ H locs → sv_Sat P D kd κ H ρ nL ls st S → ∃ (a : Nat) (st' : List Value) (cell : Cell) (v : Value), st = .ref a :: st' ∧ sv_StOk ρ rest st' ∧ sv_ev ρ ra = some (a : Int) ∧ κ a = K ∧ K ≠ 0 ∧ H[a]? = some cell ∧ cell.slots[D.2 k.2.1 f]? = some v ∧ sv_FtOk κ H.size T v ∧
                ∀ (cells slots : Nat), W p l e R s m args below meth c H locs cells slots Q (F0 m (pc + 3) ls (v :: st')) → W p l e R s m args below meth c H locs cells slots Q (F0 m pc ls st) := by
              intro κ H locs ρ ls st hI hS
              have hs := hS.2.2.1
              rw [hst] at hs
              obtain ⟨v1, vs1, rfl, p1, hs1⟩ := sv_StOk_cons hs
              have hz : ∃ x, sv_ev ρ ra = some x := ⟨_, p1.2.2⟩
              obtain ⟨x, hx1⟩ := hz
              have hnn := sv_nonn_ok hS.1 q1 hx1
              obtain ⟨k0, g⟩ := sv_kf_ok hS.2.2.2 hkf hx1
              rcases g with g | ⟨q, rfl, g1, g2⟩
              · omega
              · rcases sv_VOk3 p1 with ⟨rfl, p2⟩ | ⟨a, rfl, p2⟩
                · rw [hx1] at p2
                  simp only [Option.some.injEq] at p2
                  omega
                · rw [hx1] at p2
                  simp only [Option.some.injEq] at p2
                  have e1 : q = a := by omega
                  subst e1
                  obtain ⟨k2, cell, g3, g4, g5⟩ := hI.1.1 q (by rw [g2]; exact k0)
                  rw [g2, hkd] at g3
                  cases g3
                  rcases g5 with ⟨-, g6, g7, g8, g9⟩ | ⟨g6, -⟩
                  · obtain ⟨v, g10, g11⟩ := g8 f T hT
                    exact ⟨q, vs1, cell, v, rfl, hs1, hx1, g2, k0, g4, g10, g11, fun cells slots kk => W.getf hx hb l1 l2 l3 l4 g4 (by rw [g7]; exact fun z => by cases z) (by rw [l5]; exact g10) rfl rfl hd kk⟩
                  · rw [q2] at g6
                    cases g6
            split at h
            · simp only [Option.some.injEq, Prod.mk.injEq] at h
              obtain ⟨rfl, -⟩ := h
              intro κ H locs ρ ls st hI hP hS
              obtain ⟨a, st', cell, v, rfl, h1, h2, h3, h4, h5, h6, h7, h8⟩ := key κ H locs ρ ls st hI hS
              refine h8 _ _ (hk _ List.mem_cons_self κ H locs (ρ ++ [sv_enc v]) ls _ hI (hPx _ _ hP) (sv_rdv_ok hS h1 h7 q4 ⟨[_, _], sv_evs_cons.mpr ⟨_, _, sv_ev_app h2, sv_evs_cons.mpr ⟨_, _, sv_evv hS.1 _, rfl, rfl⟩, rfl⟩, h4, ⟨k, hkd, q2, rfl, hlt⟩, fun q hq => ?_⟩))
              have e1 : a = q := by omega
              subst e1
              exact ⟨h3, cell, v, h5, h6, h7.1, rfl⟩
            · split at h
              · rename_i i0 K' ci' f' t r' e' hn
                cases hq : (Nat.beq K' K && Nat.beq ci' k.2.1 && Nat.beq f' f && Nat.beq t T.1 && sv_leq r' ra) with
                | false => simp only [hq, cond_false] at h; cases h
                | true =>
                  simp only [hq, cond_true, Option.some.injEq, Prod.mk.injEq] at h
                  obtain ⟨rfl, -⟩ := h
                  simp only [Bool.and_eq_true] at hq
                  obtain ⟨⟨⟨⟨p1, p2⟩, p3⟩, p4⟩, p5⟩ := hq
                  have p2 := Nat.eq_of_beq_eq_true p2
                  have p3 := Nat.eq_of_beq_eq_true p3
                  have p4 := Nat.eq_of_beq_eq_true p4
                  have p5 := sv_leq_eq p5
                  subst p2; subst p3; subst p4; subst p5
                  intro κ H locs ρ ls st hI hP hS
                  obtain ⟨a, st', cell, v, rfl, h1, h2, h3, h4, h5, h6, h7, h8⟩ := key κ H locs ρ ls st hI hS
                  refine h8 _ _ (hk _ List.mem_cons_self κ H locs ρ ls _ hI hP (sv_stk_ok hS h1 ⟨h7.1, (sv_tok_ok q4).1, ?_⟩))
                  obtain ⟨vs, f1, f2⟩ := hS.2.2.2 _ (List.mem_of_getElem? (by rw [← sv_nth_eq]; exact hn))
                  obtain ⟨y1, z1, f3, f4, rfl⟩ := sv_evs_cons.mp f1
                  obtain ⟨y2, z2, f5, f6, rfl⟩ := sv_evs_cons.mp f4
                  simp only [sv_evs, Option.some.injEq] at f6
                  subst f6
                  obtain ⟨-, -, f7⟩ := f2
                  rw [h2] at f3
                  cases f3
                  obtain ⟨-, c2, v2, f8, f9, f10, f11⟩ := f7 a rfl
                  rw [h5] at f8
                  cases f8
                  rw [h6] at f9
                  cases f9
                  rw [f11]
                  exact f5
              · simp at h
        · simp at h
      · simp at h
    · simp at h
  · simp at h
theorem sv_al_ok (hPx : ∀ ρ τ, Px ρ → Px (ρ ++ τ)) {rest : List SvA} {a i : SvL} {ok : Nat → Bool} (hst : S.2.2.1 = (1, i) :: (3, a) :: rest) (h : sv_al kd S rest a i ok pc w = some (r, w')) (hk : ∀ q ∈ r, sv_Good p l e R s m args below meth c Q P D AC kd B0 κ0 mF mA Px nL q.1 q.2)
    (hr : ∀ (H : Heap) (locs : List Loc) (cells slots : Nat) (ls : Array Slot) (st : List Value) (q x : Nat) (y : Int32) (cell : Cell) (v : Value) (ec : Nat), ok ec = true → H[q]? = some cell → cell.cls = AC ec → cell.vm = .none → ¬ (y < 0 ∨ cell.slots.size ≤ y.toNatClampNeg) → cell.slots[y.toNatClampNeg]? = some v → W p l e R s m args below meth c H locs cells slots Q (F0 m (pc + 1) ls (v :: st)) → W p l e R s m args below meth c H locs cells slots Q (F0 m pc ls (.int y :: .ref q :: st))) : sv_Good p l e R s m args below meth c Q P D AC kd B0 κ0 mF mA Px nL S pc := by
  unfold sv_al at h
  split at h
  · rename_i K k md w1 hax
    split at h
    · rename_i T hT
      cases hq : (ok k.2.1 && sv_tok T) with
      | false => simp only [hq, cond_false] at h; cases h
      | true =>
        simp only [hq, cond_true] at h
        simp only [Bool.and_eq_true] at hq
        obtain ⟨q1, q4⟩ := hq
        have key : ∀ (κ : Nat → Nat) (H : Heap) (locs : List Loc) (ρ : List Int) (ls : Array Slot) (st : List Value), sv_Inv s D AC kd B0 κ0 mF mA κ H locs → sv_Sat P D kd κ H ρ nL ls st S → ∃ (q j : Nat) (st' : List Value) (cell : Cell) (v : Value), sv_StOk ρ rest st' ∧ sv_ev ρ a = some (q : Int) ∧ sv_ev ρ i = some (j : Int) ∧ κ q = K ∧ K ≠ 0 ∧ sv_nth kd K = some k ∧ k.1 = 1 ∧ H[q]? = some cell ∧ cell.slots[j]? = some v ∧ sv_FtOk κ H.size T v ∧
            ∀ (cells slots : Nat), W p l e R s m args below meth c H locs cells slots Q (F0 m (pc + 1) ls (v :: st')) → W p l e R s m args below meth c H locs cells slots Q (F0 m pc ls st) := by
          intro κ H locs ρ ls st hI hS
          have hs := hS.2.2.1
          rw [hst] at hs
          obtain ⟨v1, vs1, rfl, p1, hs1⟩ := sv_StOk_cons hs
          obtain ⟨v2, vs2, rfl, p2, hs2⟩ := sv_StOk_cons hs1
          obtain ⟨y, rfl, p3⟩ := sv_VOk1 p1
          obtain ⟨q, cell, g1, g2, g3, g4, g5, g6, g7, g8, g9⟩ := sv_ax_ok hI.1 hS hax p2.2.2 p3
          rcases sv_VOk3 p2 with ⟨rfl, p5⟩ | ⟨b, rfl, p5⟩
          · have e1 : (-1 : Int) = (q : Int) := g1
            omega
          · have e1 : (b : Int) = (q : Int) := g1
            have e2 : b = q := by omega
            subst e2
            have e3 : y.toNatClampNeg = y.toInt.toNat := rfl
            have hlt : y.toInt.toNat < cell.slots.size := by omega
            obtain ⟨v, hv⟩ : ∃ v, cell.slots[y.toInt.toNat]? = some v := ⟨_, Array.getElem?_eq_getElem hlt⟩
            have e4 : ((y.toInt.toNat : Nat) : Int) = y.toInt := Int.toNat_of_nonneg g8
            refine ⟨b, y.toInt.toNat, vs2, cell, v, hs2, p5, by rw [e4]; exact p3, g2, g3, g4, g5, g6, hv, g7.2.2.2.2 T hT _ v hv, fun cells slots kk => hr H locs cells slots ls vs2 b 0 y cell v k.2.1 q1 g6 g7.1 g7.2.1 (sv_ix g8 g9) (by rw [e3]; exact hv) kk⟩
        split at h
        · simp only [Option.some.injEq, Prod.mk.injEq] at h
          obtain ⟨rfl, -⟩ := h
          intro κ H locs ρ ls st hI hP hS
          obtain ⟨q, j, st', cell, v, h1, h2, h3, h4, h5, h6, h7, h8, h9, h10, h11⟩ := key κ H locs ρ ls st hI hS
          refine h11 _ _ (hk _ List.mem_cons_self κ H locs (ρ ++ [sv_enc v]) ls _ hI (hPx _ _ hP) (sv_rdv_ok hS h1 h10 q4 ⟨[_, _, _], sv_evs_cons.mpr ⟨_, _, sv_ev_app h2, sv_evs_cons.mpr ⟨_, _, sv_ev_app h3, sv_evs_cons.mpr ⟨_, _, sv_evv hS.1 _, rfl, rfl⟩, rfl⟩, rfl⟩, h5, ⟨k, h6, h7⟩, fun q' j' hq hj => ?_⟩))
          have e1 : q = q' := by omega
          have e2 : j = j' := by omega
          subst e1; subst e2
          exact ⟨h4, cell, h8, fun _ => ⟨v, h9, h10.1, rfl⟩⟩
        · split at h
          · rename_i m0 K' t a' i' e' hn
            cases hq : (Nat.beq K' K && Nat.beq t T.1 && sv_leq a' a && sv_leq i' i) with
            | false => simp only [hq, cond_false] at h; cases h
            | true =>
              simp only [hq, cond_true, Option.some.injEq, Prod.mk.injEq] at h
              obtain ⟨rfl, -⟩ := h
              simp only [Bool.and_eq_true] at hq
              obtain ⟨⟨⟨p1, p2⟩, p3⟩, p4⟩ := hq
              have p2 := Nat.eq_of_beq_eq_true p2
              have p3 := sv_leq_eq p3
              have p4 := sv_leq_eq p4
              subst p2; subst p3; subst p4
              intro κ H locs ρ ls st hI hP hS
              obtain ⟨q, j, st', cell, v, h1, h2, h3, h4, h5, h6, h7, h8, h9, h10, h11⟩ := key κ H locs ρ ls st hI hS
              refine h11 _ _ (hk _ List.mem_cons_self κ H locs ρ ls _ hI hP (sv_stk_ok hS h1 ⟨h10.1, (sv_tok_ok q4).1, ?_⟩))
              obtain ⟨vs, f1, f2⟩ := hS.2.2.2 _ (List.mem_of_getElem? (by rw [← sv_nth_eq]; exact hn))
              obtain ⟨y1, z1, f3, f4, rfl⟩ := sv_evs_cons.mp f1
              obtain ⟨y2, z2, f5, f6, rfl⟩ := sv_evs_cons.mp f4
              obtain ⟨y3, z3, f12, f13, rfl⟩ := sv_evs_cons.mp f6
              simp only [sv_evs, Option.some.injEq] at f13
              subst f13
              obtain ⟨-, -, f7⟩ := f2
              rw [h2] at f3
              cases f3
              rw [h3] at f5
              cases f5
              obtain ⟨-, c2, f8, f9⟩ := f7 q j rfl rfl
              rw [h8] at f8
              cases f8
              obtain ⟨v2, f10, f11, f14⟩ := f9 (Array.getElem?_eq_some_iff.mp h9).1
              rw [h9] at f10
              cases f10
              rw [f14]
              exact f12
          · simp at h
    · simp at h
  · simp at h
theorem sv_alen_ok (hPx : ∀ ρ τ, Px ρ → Px (ρ ++ τ)) (hx : p.tables.exec = Jvm.exec) (hb : c.code = cc) {cn : Nat → String} (hA : ∀ x, ArrOfT s (AC x) (sv_ety cn x)) {rest : List SvA} {a : SvL} (hst : S.2.2.1 = (3, a) :: rest) (hd : decode cc pc = .ok (.arraylength, 1)) (h : sv_alen kd S rest a pc w = some (r, w')) (hk : ∀ q ∈ r, sv_Good p l e R s m args below meth c Q P D AC kd B0 κ0 mF mA Px nL q.1 q.2) : sv_Good p l e R s m args below meth c Q P D AC kd B0 κ0 mF mA Px nL S pc := by
  unfold sv_alen at h
  split at h
  · rename_i j md w1
    split at h
    · rename_i K hkf
      split at h
      · rename_i k hkd
        cases hq : (sv_nonn S.1 a && Nat.beq k.1 1 && Nat.ble k.2.2.2.2.2.1 2147483647) with
        | false => simp only [hq, cond_false] at h; cases h
        | true =>
          simp only [hq, cond_true] at h
          simp only [Bool.and_eq_true] at hq
          obtain ⟨⟨q1, q2⟩, q3⟩ := hq
          have q2 := Nat.eq_of_beq_eq_true q2
          have q3 := Nat.le_of_ble_eq_true q3
          have key : ∀ (κ : Nat → Nat) (H : Heap) (locs : List Loc) (ρ : List Int) (ls : Array Slot) (st : List Value), sv_Inv s D AC kd B0 κ0 mF mA κ H locs → sv_Sat P D kd κ H ρ nL ls st S → ∃ (q : Nat) (st' : List Value) (cell : Cell) (y : Int32), sv_StOk ρ rest st' ∧ sv_ev ρ a = some (q : Int) ∧ H[q]? = some cell ∧ y.toInt = (cell.slots.size : Int) ∧ k.2.2.2.2.1 ≤ cell.slots.size ∧ cell.slots.size ≤ k.2.2.2.2.2.1 ∧
              ∀ (cells slots : Nat), W p l e R s m args below meth c H locs cells slots Q (F0 m (pc + 1) ls (.int y :: st')) → W p l e R s m args below meth c H locs cells slots Q (F0 m pc ls st) := by
            intro κ H locs ρ ls st hI hS
            have hs := hS.2.2.1
            rw [hst] at hs
            obtain ⟨v1, vs1, rfl, p1, hs1⟩ := sv_StOk_cons hs
            have hz : ∃ x, sv_ev ρ a = some x := ⟨_, p1.2.2⟩
            obtain ⟨x, hx1⟩ := hz
            have hnn := sv_nonn_ok hS.1 q1 hx1
            obtain ⟨k0, g⟩ := sv_kf_ok hS.2.2.2 hkf hx1
            rcases g with g | ⟨q, rfl, g1, g2⟩
            · omega
            · rcases sv_VOk3 p1 with ⟨rfl, p2⟩ | ⟨b, rfl, p2⟩
              · rw [hx1] at p2
                simp only [Option.some.injEq] at p2
                omega
              · rw [hx1] at p2
                simp only [Option.some.injEq] at p2
                have e1 : q = b := by omega
                subst e1
                obtain ⟨k2, cell, g3, g4, g5⟩ := hI.1.1 q (by rw [g2]; exact k0)
                rw [g2, hkd] at g3
                cases g3
                rcases g5 with ⟨g6, -⟩ | ⟨-, g6, g7, g8, g9, g10⟩
                · rw [q2] at g6
                  cases g6
                · have hy : cell.slots.size.toInt32.toInt = (cell.slots.size : Int) := by
                    show (nI cell.slots.size).toInt = _
                    exact nI_toInt (by omega)
                  exact ⟨q, vs1, cell, cell.slots.size.toInt32, hs1, hx1, g4, hy, g8, g9, fun cells slots kk => W.alen (ty := sv_ety cn k.2.1) hx hb g4 (sv_arr (hA _) g6 g7) rfl rfl rfl hd kk⟩
          split at h
          · simp only [Option.some.injEq, Prod.mk.injEq] at h
            obtain ⟨rfl, -⟩ := h
            intro κ H locs ρ ls st hI hP hS
            obtain ⟨q, st', cell, y, h1, h2, h3, h4, h5, h6, h7⟩ := key κ H locs ρ ls st hI hS
            obtain ⟨lv, hl1, hl2⟩ := hS.2.1
            refine h7 _ _ (hk _ List.mem_cons_self κ H locs (ρ ++ [y.toInt]) ls _ hI (hPx _ _ hP) ⟨sv_BOk_add hS.1 ?_ (fun z hz => by cases hz; rw [h4]; show _ ≤ ((k.2.2.2.2.2.1 : Nat) : Int); omega), ⟨lv, hl1, sv_LoOk_app hl2⟩, ⟨sv_mkV1 (sv_evv hS.1 _), sv_StOk_app h1⟩, fun f hf => ?_⟩)
            · rw [h4]
              show ((k.2.2.2.2.1 : Nat) : Int) ≤ _
              omega
            · rcases List.mem_cons.mp hf with rfl | hf
              · refine ⟨[_, _], sv_evs_cons.mpr ⟨_, _, sv_ev_app h2, sv_evs_cons.mpr ⟨_, _, sv_evv hS.1 _, rfl, rfl⟩, rfl⟩, fun q' hq => ?_⟩
                have e1 : q = q' := by omega
                subst e1
                exact ⟨cell, h3, h4.symm⟩
              · exact sv_FOk_app (hS.2.2.2 f hf)
          · split at h
            · rename_i m0 z0 a' e' hn
              cases hq : sv_leq a' a with
              | false => simp only [hq, cond_false] at h; cases h
              | true =>
                simp only [hq, cond_true, Option.some.injEq, Prod.mk.injEq] at h
                obtain ⟨rfl, -⟩ := h
                have p3 := sv_leq_eq hq
                subst p3
                intro κ H locs ρ ls st hI hP hS
                obtain ⟨q, st', cell, y, h1, h2, h3, h4, h5, h6, h7⟩ := key κ H locs ρ ls st hI hS
                refine h7 _ _ (hk _ List.mem_cons_self κ H locs ρ ls _ hI hP (sv_stk_ok hS h1 (sv_mkV1 ?_)))
                obtain ⟨vs, f1, f2⟩ := hS.2.2.2 _ (List.mem_of_getElem? (by rw [← sv_nth_eq]; exact hn))
                obtain ⟨y1, z1, f3, f4, rfl⟩ := sv_evs_cons.mp f1
                obtain ⟨y2, z2, f5, f6, rfl⟩ := sv_evs_cons.mp f4
                simp only [sv_evs, Option.some.injEq] at f6
                subst f6
                rw [h2] at f3
                cases f3
                have f2 : ∀ q0 : Nat, (q : Int) = (q0 : Int) → ∃ cell : Cell, H[q0]? = some cell ∧ (cell.slots.size : Int) = y2 := f2
                obtain ⟨c2, f7, f8⟩ := f2 q rfl
                rw [h3] at f7
                cases f7
                rw [h4, f8]
                exact f5
            · simp at h
      · simp at h
    · simp at h
  · simp at h
theorem sv_R_ok (hPx : ∀ ρ τ, Px ρ → Px (ρ ++ τ)) (hx : p.tables.exec = Jvm.exec) (hb : c.code = cc) {lkG : List (Nat × Nat × Nat)} {lkS : List (Nat × Nat)} {lkI lkL : List (Nat × Int)} {cn : Nat → String} (hA : ∀ x, ArrOfT s (AC x) (sv_ety cn x)) (hG : ∀ idx ci f, (idx, (ci, f)) ∈ lkG → sv_LkG s m args D idx ci f) (hLS : ∀ idx K, (idx, K) ∈ lkS → sv_LkS s m args κ0 idx K) (hLI : ∀ idx v, (idx, v) ∈ lkI → sv_LkI s m args idx v) (hLL : ∀ idx v, (idx, v) ∈ lkL → sv_LkL s m args idx v)
    {i : Instr} (hd : decode cc pc = .ok (i, n)) (h : sv_R lkG lkS lkI lkL kd S pc i n w = some (r, w')) (hk : ∀ q ∈ r, sv_Good p l e R s m args below meth c Q P D AC kd B0 κ0 mF mA Px nL q.1 q.2) : sv_Good p l e R s m args below meth c Q P D AC kd B0 κ0 mF mA Px nL S pc := by
  unfold sv_R at h
  split at h
  · rename_i idx
    cases hq : Nat.beq n 3 with
    | false => simp only [hq, cond_false] at h; cases h
    | true =>
      simp only [hq, cond_true] at h
      have hn := Nat.eq_of_beq_eq_true hq
      subst hn
      exact sv_gf_ok hPx hx hb hG hd h hk
  · split at h
    · rename_i i0 a rest hst
      cases hq : Nat.beq n 1 with
      | false => simp only [hq, cond_false] at h; cases h
      | true =>
        simp only [hq, cond_true] at h
        have hn := Nat.eq_of_beq_eq_true hq
        subst hn
        refine sv_al_ok hPx hst h hk (fun H locs cells slots ls st q x y cell v ec e1 h1 h2 h3 h4 h5 kk => ?_)
        have e2 := Nat.eq_of_beq_eq_true e1
        subst e2
        exact W.iald hx hb h1 (sv_arr (hA 0) h2 h3) (by rw [h3]; exact fun z => by cases z) h4 h5 rfl rfl hd kk
    · simp at h
  · split at h
    · rename_i i0 a rest hst
      cases hq : Nat.beq n 1 with
      | false => simp only [hq, cond_false] at h; cases h
      | true =>
        simp only [hq, cond_true] at h
        have hn := Nat.eq_of_beq_eq_true hq
        subst hn
        refine sv_al_ok hPx hst h hk (fun H locs cells slots ls st q x y cell v ec e1 h1 h2 h3 h4 h5 kk => ?_)
        simp only [sv_isb, Bool.or_eq_true] at e1
        rcases e1 with e1 | e1
        · have e2 := Nat.eq_of_beq_eq_true e1
          subst e2
          exact W.bald hx hb h1 (sv_arr (hA 1) h2 h3) (by rw [h3]; exact fun z => by cases z) h4 h5 rfl rfl hd kk
        · have e2 := Nat.eq_of_beq_eq_true e1
          subst e2
          exact W.zald hx hb h1 (sv_arr (hA 2) h2 h3) (by rw [h3]; exact fun z => by cases z) h4 h5 rfl rfl hd kk
    · simp at h
  · split at h
    · rename_i i0 a rest hst
      cases hq : Nat.beq n 1 with
      | false => simp only [hq, cond_false] at h; cases h
      | true =>
        simp only [hq, cond_true] at h
        have hn := Nat.eq_of_beq_eq_true hq
        subst hn
        refine sv_al_ok hPx hst h hk (fun H locs cells slots ls st q x y cell v ec e1 h1 h2 h3 h4 h5 kk => ?_)
        have e2 := Nat.eq_of_beq_eq_true e1
        subst e2
        exact W.lald hx hb h1 (sv_arr (hA 3) h2 h3) (by rw [h3]; exact fun z => by cases z) h4 h5 rfl rfl hd kk
    · simp at h
  · split at h
    · rename_i i0 a rest hst
      cases hq : Nat.beq n 1 with
      | false => simp only [hq, cond_false] at h; cases h
      | true =>
        simp only [hq, cond_true] at h
        have hn := Nat.eq_of_beq_eq_true hq
        subst hn
        refine sv_al_ok hPx hst h hk (fun H locs cells slots ls st q x y cell v ec e1 h1 h2 h3 h4 h5 kk => ?_)
        have e2 := Nat.eq_of_beq_eq_true e1
        subst e2
        exact W.cald hx hb h1 (sv_arr (hA 4) h2 h3) (by rw [h3]; exact fun z => by cases z) h4 h5 rfl rfl hd kk
    · simp at h
  · split at h
    · rename_i i0 a rest hst
      cases hq : Nat.beq n 1 with
      | false => simp only [hq, cond_false] at h; cases h
      | true =>
        simp only [hq, cond_true] at h
        have hn := Nat.eq_of_beq_eq_true hq
        subst hn
        refine sv_al_ok hPx hst h hk (fun H locs cells slots ls st q x y cell v ec e1 h1 h2 h3 h4 h5 kk => ?_)
        obtain ⟨j, rfl⟩ : ∃ j, ec = j + 5 := ⟨ec - 5, by have := Nat.le_of_ble_eq_true e1; omega⟩
        exact W.aald hx hb h1 (sv_arr (hA (j + 5)) h2 h3) rfl (by rw [h3]; exact fun z => by cases z) h4 h5 rfl rfl hd kk
    · simp at h
  · split at h
    · rename_i a rest hst
      cases hq : Nat.beq n 1 with
      | false => simp only [hq, cond_false] at h; cases h
      | true =>
        simp only [hq, cond_true] at h
        have hn := Nat.eq_of_beq_eq_true hq
        subst hn
        exact sv_alen_ok hPx hx hb hA hst hd h hk
    · simp at h
  · rename_i idx
    split at h
    · rename_i v hlk
      obtain ⟨own, x, l1, l2, l3⟩ := hLI _ _ (sv_lk_ok hlk)
      refine sv_to_ok h hk (fun hn κ H locs cells slots ρ ls st hst kk => ?_)
      subst hn
      exact lv_ldc hx hb l1 l2 hd (kk _ ⟨sv_mkV1 (by rw [sv_ev_k, l3]), hst⟩)
    · simp at h
  · rename_i idx
    split at h
    · rename_i v hlk
      obtain ⟨own, x, l1, l2, l3⟩ := hLI _ _ (sv_lk_ok hlk)
      refine sv_to_ok h hk (fun hn κ H locs cells slots ρ ls st hst kk => ?_)
      subst hn
      exact lv_ldcw hx hb l1 l2 hd (kk _ ⟨sv_mkV1 (by rw [sv_ev_k, l3]), hst⟩)
    · simp at h
  · rename_i idx
    split at h
    · rename_i v hlk
      obtain ⟨own, x, l1, l2, l3⟩ := hLL _ _ (sv_lk_ok hlk)
      refine sv_to_ok h hk (fun hn κ H locs cells slots ρ ls st hst kk => ?_)
      subst hn
      exact lv_ldc2 hx hb l1 l2 hd (kk _ ⟨sv_mkV2 (by rw [sv_ev_k, l3]), hst⟩)
    · simp at h
  · rename_i idx
    split at h
    · rename_i K hlk
      cases hq : (Nat.beq n 3 && !(Nat.beq K 0)) with
      | false => simp only [hq, cond_false] at h; cases h
      | true =>
        simp only [hq, cond_true, Option.some.injEq, Prod.mk.injEq] at h
        obtain ⟨rfl, -⟩ := h
        rw [Bool.and_eq_true, Bool.not_eq_true'] at hq
        have hn := Nat.eq_of_beq_eq_true hq.1
        subst hn
        have hK0 : K ≠ 0 := fun z => by rw [z] at hq; exact absurd hq.2 (by decide)
        obtain ⟨own, ref, name, desc, cf, fi, kf, fd, a0, a, cell, l1, l2, l3, l4, l5, l6, l7, l8, l9, l10, l11, l12⟩ := hLS _ _ (sv_lk_ok hlk)
        intro κ H locs ρ ls st hI hP hS
        obtain ⟨c', g1, -, -, -, g2, -⟩ := hI.2.2.1 a0 cell l7
        rw [g2 l8] at g1
        obtain ⟨lv, hl1, hl2⟩ := hS.2.1
        refine W.gets hx hb l1 l2 l3 l4 l5 l6 g1 l9 l10 rfl hd (hk _ List.mem_cons_self κ H locs (ρ ++ [(a : Int)]) ls _ hI (hPx _ _ hP) ⟨sv_BOk_add hS.1 (Int.natCast_nonneg a) (fun z hz => by cases hz), ⟨lv, hl1, sv_LoOk_app hl2⟩, ⟨sv_mkV3 (sv_evv hS.1 _), sv_StOk_app hS.2.2.1⟩, fun f hf => ?_⟩)
        rcases List.mem_cons.mp hf with rfl | hf
        · exact ⟨[(a : Int)], sv_evs_cons.mpr ⟨_, _, sv_evv hS.1 _, rfl, rfl⟩, hK0, Or.inr ⟨a, rfl, Nat.lt_of_lt_of_le l11 hI.2.2.2.2.1, by rw [hI.2.1 a l11]; exact l12⟩⟩
        · exact sv_FOk_app (hS.2.2.2 f hf)
    · simp at h
  · simp at h
end SVI
