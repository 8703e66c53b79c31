-- ===== System.arraycopy between arrays of one primitive type =====
theorem sv_sp_el : ∀ {vs : List (Value × Nat)} {c : Cell} {at0 i : Nat} {v : Value}, (c.storePairs at0 vs).slots[i]? = some v → c.slots[i]? = some v ∨ ∃ q ∈ vs, q.1 = v
  | [], _, _, _, _, h => Or.inl h
  | q :: r, c, at0, i, v, h => by
    have h : ((c.setSlot (at0 + q.2) q.1).storePairs at0 r).slots[i]? = some v := h
    rcases sv_sp_el h with h1 | ⟨q1, h1, h2⟩
    · have h1 : (c.slots.setIfInBounds (at0 + q.2) q.1)[i]? = some v := h1
      rw [Array.getElem?_setIfInBounds] at h1
      split at h1
      · split at h1
        · simp only [Option.some.injEq] at h1
          exact Or.inr ⟨q, List.mem_cons_self, h1⟩
        · cases h1
      · exact Or.inl h1
    · exact Or.inr ⟨q1, List.mem_cons_of_mem _ h1, h2⟩
/-- a cell of an array kind anew -/
theorem sv_TI_aset {D : va_G} {AC : Nat → ClassId} {kd : List SvK} {B0 : Nat} (hiv : sv_ivs kd) {κ : Nat → Nat} {H H' : Heap} {a : Nat} {cell cell' : Cell} {K : SvK} (hT : sv_TI D AC kd B0 κ H) (hK : sv_nth kd (κ a) = some K) (hc : H[a]? = some cell) (hc' : H'[a]? = some cell') (hz : H'.size = H.size) (ho : ∀ q, q ≠ a → H'[q]? = H[q]?) (hs : cell'.slots.size = cell.slots.size)
    (h : sv_ClOk D AC κ H' K cell') (h0 : K.1 = 1) (hne : κ a ≠ g_aitems ∧ κ a ≠ g_vols ∧ κ a ≠ g_facts) : sv_TI D AC kd B0 κ H' := by
  have hM : sv_Mv [] κ H κ H' := ⟨by omega, fun _ _ => Or.inl rfl, fun q c0 hq => by
    by_cases e : q = a
    · subst e
      rw [hc] at hq
      cases hq
      exact ⟨cell', hc', hs⟩
    · exact ⟨c0, by rw [ho q e]; exact hq, rfl⟩⟩
  refine ⟨fun q hq => ?_, fun q k hq0 hq hk => ?_, by rw [hz]; exact hT.2.2.1, sv_G_aset hiv.2 hT hK h0 ho hne⟩
  · obtain ⟨k, c0, g1, g2, g3⟩ := hT.1 q hq
    by_cases e : q = a
    · subst e
      rw [hK] at g1
      cases g1
      exact ⟨K, cell', hK, hc', h⟩
    · exact ⟨k, c0, g1, by rw [ho q e]; exact g2, sv_ClOk_mv hiv hM g1 g3⟩
  · obtain ⟨g1, g2⟩ := hT.2.1 q k hq0 hq hk
    refine ⟨g1, ?_⟩
    rcases g2 with g2 | g2
    · exact Or.inl g2
    · refine Or.inr fun c0 hc0 => ?_
      by_cases e : q = a
      · subst e
        rw [hc'] at hc0
        cases hc0
        rw [hs]
        exact g2 cell hc
      · rw [ho q e] at hc0
        exact g2 c0 hc0
def sv_spC (K1 K2 : Nat) : SvP := ([(0, none), (0, none), (0, none), (0, some 2147483647), (0, none), (0, some 2147483647), (0, some 2147483647), (0, none), (0, none)], [(3, sv_v 2), (1, sv_v 3), (3, sv_v 4), (1, sv_v 5), (1, sv_v 6)],
  [(1, [K1], [sv_v 2]), (2, [], [sv_v 2, sv_v 7]), (1, [K2], [sv_v 4]), (2, [], [sv_v 4, sv_v 8]), (0, [], [sv_sub (sv_sub (sv_v 7) (sv_v 3)) (sv_v 6)]), (0, [], [sv_sub (sv_sub (sv_v 8) (sv_v 5)) (sv_v 6)])], [], [K2], [], [([], [(7, [], [sv_v 0]), (8, [], [sv_v 1])], none)], 0, 0)
def sv_Cok (kd : List SvK) (K1 K2 : Nat) : Bool := !(Nat.beq K2 g_aitems) && !(Nat.beq K2 g_vols) && !(Nat.beq K2 g_facts) && match sv_nth kd K1, sv_nth kd K2 with
  | some k1, some k2 => Nat.beq k1.1 1 && Nat.beq k2.1 1 && Nat.beq k1.2.1 k2.2.1 && !k2.2.2.2.2.2.2 && !(Nat.beq K2 0) && (match k1.2.2.1, k2.2.2.1 with
    | [T1], [T2] => Nat.beq T1.1 T2.1 && sv_le T2.2.1 T1.2.1 && sv_le T1.2.2.1 T2.2.2.1 && (bif Nat.beq k1.2.1 0 then Nat.beq T1.1 1 else bif Nat.beq k1.2.1 1 then Nat.beq T1.1 1 && sv_le (-128) T1.2.1 && sv_le T1.2.2.1 127 else Nat.beq k1.2.1 3 && Nat.beq T1.1 2)
    | _, _ => false)
  | _, _ => false
section SVCPY
variable {p : Program} {l : Launch} {e : Env} {R : Room} {s : State} {m : MethodId} {args : Array Value} {below : List Frame} {meth : Method} {c : Code} {P : Nat → List Nat → List Int → (Nat → Nat) → Heap → Prop} {D : va_G} {AC : Nat → ClassId} {kd : List SvK} {B0 : Nat} {κ0 : Nat → Nat} {nL : Nat} {cc : ByteArray}
theorem sv_calC (hiv : sv_ivs kd) {cn : Nat → String} (hA : ∀ x, ArrOfT s (AC x) (sv_ety cn x)) (hx : p.tables.exec = Jvm.exec) (hb : c.code = cc) (hml : c.maxLocals = nL) {own : String} {idx K1 K2 : Nat} (hok : sv_Cok kd K1 K2 = true) (hown : s.vm.findClass own = some m.cls) (hlink : (Cond.methodLink own idx arraycopyName).before args s = true) (hnat : (Cond.native arraycopyName).before args s = true) (hstat : (Cond.static arraycopyName).before args s = true)
    (hini : (Cond.initialized "java/lang/System").before args s = true) (hfr : 1 ≤ R.frames) (hlo : 32 ≤ R.locals) : sv_Cal p l e R s m args below meth c P D AC kd B0 κ0 nL cc 1 idx (sv_spC K1 K2) := by
  intro κ H locs cells slots ρ vals rest pc ls hpre h1 h2 h3 hls hsum hd hroom
  obtain ⟨hT, p0, p1, p2, p3, p4⟩ := hpre
  obtain ⟨v1, vs1, rfl, q1, hs1⟩ := sv_StOk_cons p3
  obtain ⟨v2, vs2, rfl, q2, hs2⟩ := sv_StOk_cons hs1
  obtain ⟨v3, vs3, rfl, q3, hs3⟩ := sv_StOk_cons hs2
  obtain ⟨v4, vs4, rfl, q4, hs4⟩ := sv_StOk_cons hs3
  obtain ⟨v5, vs5, rfl, q5, hs5⟩ := sv_StOk_cons hs4
  have e6 := sv_StOk_nil hs5
  subst e6
  obtain ⟨x, rfl, r2⟩ := sv_VOk1 q2
  obtain ⟨y, rfl, r4⟩ := sv_VOk1 q4
  obtain ⟨n, rfl, r5⟩ := sv_VOk1 q5
  have href : ∀ (i K : Nat) (v : Value), sv_nth (sv_spC K1 K2).1 i = some (0, none) → sv_VOk ρ (3, sv_v i) v → ((1, [K], [sv_v i]) : SvF) ∈ (sv_spC K1 K2).2.2.1 → ∃ a : Nat, v = .ref a ∧ sv_ev ρ (sv_v i) = some (a : Int) ∧ κ a = K ∧ K ≠ 0 ∧ a < H.size := by
    intro i K v hn hv hf
    obtain ⟨xs, f1, f2⟩ := p4 _ hf
    obtain ⟨y1, z1, f3, f4, rfl⟩ := sv_evs_cons.mp f1
    simp only [sv_evs, Option.some.injEq] at f4
    subst f4
    obtain ⟨kk, f5⟩ := f2
    have g2 : sv_ev ρ (sv_v i) = some (sv_enc v) := hv.2.2
    have g3 := (p2.2 i _ _ (sv_ev_v_inv g2) hn).1
    have g3 : 0 ≤ sv_enc v := g3
    rw [g2] at f3
    cases f3
    rcases sv_val3 hv.1 with ⟨rfl, e2⟩ | ⟨b, rfl, e2⟩
    · rw [e2] at g3
      exact absurd g3 (by decide)
    · rcases f5 with f5 | ⟨a, f5, f6, f7⟩
      · omega
      · have e3 : b = a := by omega
        subst e3
        exact ⟨b, rfl, by rw [g2, e2], f7, kk, f6⟩
  obtain ⟨a, rfl, ea, ka, kz1, la⟩ := href 2 K1 v1 rfl q1 (by simp [sv_spC])
  obtain ⟨b, rfl, eb, kb, kz2, lb⟩ := href 4 K2 v3 rfl q3 (by simp [sv_spC])
  have hlen : ∀ (i j : Nat) (q : Nat), ((2, [], [sv_v i, sv_v j]) : SvF) ∈ (sv_spC K1 K2).2.2.1 → sv_ev ρ (sv_v i) = some (q : Int) → ∃ cell : Cell, H[q]? = some cell ∧ sv_ev ρ (sv_v j) = some (cell.slots.size : Int) := by
    intro i j q hf hq
    obtain ⟨xs, f1, f2⟩ := p4 _ hf
    obtain ⟨y1, z1, f3, f4, rfl⟩ := sv_evs_cons.mp f1
    obtain ⟨y2, z2, f5, f6, rfl⟩ := sv_evs_cons.mp f4
    simp only [sv_evs, Option.some.injEq] at f6
    subst f6
    have f2 : ∀ q0 : Nat, y1 = (q0 : Int) → ∃ cell : Cell, H[q0]? = some cell ∧ (cell.slots.size : Int) = y2 := f2
    rw [hq] at f3
    cases f3
    obtain ⟨cell, g1, g2⟩ := f2 q rfl
    exact ⟨cell, g1, by rw [g2]; exact f5⟩
  obtain ⟨cs, cs1, cs2⟩ := hlen 2 7 a (by simp [sv_spC]) ea
  obtain ⟨cd, cd1, cd2⟩ := hlen 4 8 b (by simp [sv_spC]) eb
  have hge : ∀ g : SvL, ((0, [], [g]) : SvF) ∈ (sv_spC K1 K2).2.2.1 → ∀ z : Int, sv_ev ρ g = some z → 0 ≤ z := by
    intro g hf z hz
    obtain ⟨xs, f1, f2⟩ := p4 _ hf
    obtain ⟨y1, z1, f3, f4, rfl⟩ := sv_evs_cons.mp f1
    simp only [sv_evs, Option.some.injEq] at f4
    subst f4
    rw [hz] at f3
    cases f3
    exact f2
  have w1 := hge (sv_sub (sv_sub (sv_v 7) (sv_v 3)) (sv_v 6)) (by simp [sv_spC]) _ (sv_ev_sub (sv_ev_sub cs2 r2) r5)
  have w2 := hge (sv_sub (sv_sub (sv_v 8) (sv_v 5)) (sv_v 6)) (by simp [sv_spC]) _ (sv_ev_sub (sv_ev_sub cd2 r4) r5)
  have b3 : (0 : Int) ≤ x.toInt := (p2.2 3 _ (0, some 2147483647) (sv_ev_v_inv r2) rfl).1
  have b5 : (0 : Int) ≤ y.toInt := (p2.2 5 _ (0, some 2147483647) (sv_ev_v_inv r4) rfl).1
  have b6 : (0 : Int) ≤ n.toInt := (p2.2 6 _ (0, some 2147483647) (sv_ev_v_inv r5) rfl).1
  have hn0 : ∀ z : Int32, 0 ≤ z.toInt → ¬ z < 0 := fun z hz h => by
    rw [Int32.lt_iff_toInt_lt, sv_i0] at h
    omega
  unfold sv_Cok at hok
  rw [Bool.and_eq_true, Bool.and_eq_true, Bool.and_eq_true, Bool.not_eq_true', Bool.not_eq_true', Bool.not_eq_true'] at hok
  obtain ⟨⟨⟨y1, y2⟩, y3⟩, hok⟩ := hok
  have hgne : κ b ≠ g_aitems ∧ κ b ≠ g_vols ∧ κ b ≠ g_facts := by
    rw [kb]
    exact ⟨(fun z => by rw [z, Nat.beq_refl] at y1; cases y1), (fun z => by rw [z, Nat.beq_refl] at y2; cases y2), (fun z => by rw [z, Nat.beq_refl] at y3; cases y3)⟩
  split at hok
  · rename_i k1 k2 hk1 hk2
    simp only [Bool.and_eq_true, Bool.not_eq_true'] at hok
    obtain ⟨⟨⟨⟨⟨o1, o2⟩, o3⟩, o4⟩, o5⟩, o6⟩ := hok
    have o1 := Nat.eq_of_beq_eq_true o1
    have o2 := Nat.eq_of_beq_eq_true o2
    have o3 := Nat.eq_of_beq_eq_true o3
    split at o6
    · rename_i T1 T2 hT1 hT2
      simp only [Bool.and_eq_true, sv_le_iff] at o6
      obtain ⟨⟨⟨t1, t2⟩, t3⟩, t4⟩ := o6
      have t1 := Nat.eq_of_beq_eq_true t1
      obtain ⟨k1', c1', g1, g2, g3⟩ := hT.1 a (by rw [ka]; exact kz1)
      rw [ka, hk1] at g1
      cases g1
      rw [cs1] at g2
      cases g2
      obtain ⟨k2', c2', g4, g5, g6⟩ := hT.1 b (by rw [kb]; exact kz2)
      rw [kb, hk2] at g4
      cases g4
      rw [cd1] at g5
      cases g5
      rcases g3 with ⟨z, -⟩ | ⟨-, m1, m2, m3, m4, m5⟩
      · rw [o1] at z; cases z
      rcases g6 with ⟨z, -⟩ | ⟨-, n1, n2, n3, n4, n5⟩
      · rw [o2] at z; cases z
      have m5 := m5 T1 (by rw [hT1]; rfl)
      have n5 := n5 T2 (by rw [hT2]; rfl)
      obtain ⟨-, kC, hkC, cmp, hkk⟩ := hA k1.2.1 0 (fun _ => .null)
      have hkC : s.vm.classes[AC k1.2.1]? = some kC := hkC
      have nx : (x.toNatClampNeg : Int) = x.toInt := Int.toNat_of_nonneg b3
      have ny : (y.toNatClampNeg : Int) = y.toInt := Int.toNat_of_nonneg b5
      have nn : (n.toNatClampNeg : Int) = n.toInt := Int.toNat_of_nonneg b6
      have hel : ∀ i, i < n.toNatClampNeg → ∃ v, cs.slots[x.toNatClampNeg + i]? = some v ∧ sv_FtOk κ H.size T1 v ∧ cs.slots.getD (x.toNatClampNeg + i) .null = v := fun i hi => by
        have hlt : x.toNatClampNeg + i < cs.slots.size := by omega
        exact ⟨_, Array.getElem?_eq_getElem hlt, m5 _ _ (Array.getElem?_eq_getElem hlt), by simp [Array.getD, hlt]⟩
      intro T hTH X
      obtain ⟨vm', X', st⟩ := X.arraycopy hx hown hlink hnat hstat hini (src := a) (dst := b) (cs := cs) (cd := cd) (srcPos := x) (destPos := y) (n := n) (by rw [hTH]; exact cs1) (by rw [hTH]; exact cd1) (by rw [m2]; exact fun _ z => by cases z) (by rw [n2]; exact fun _ z => by cases z) (by rw [m2]; exact fun z => by cases z) (by rw [n2]; exact fun z => by cases z)
        (by rw [m1]; exact hkC) (by rw [n1, ← o3]; exact hkC) hkk hkk (by simp) (hn0 x b3) (hn0 y b5) (hn0 n b6) (by omega) (by omega)
        (fun vm1 _ i hi => by
          obtain ⟨v, v1, v2, v3⟩ := hel i hi
          rw [v3]
          cases e0 : Nat.beq k1.2.1 0 with
          | true =>
            rw [e0] at t4
            have e0 := Nat.eq_of_beq_eq_true e0
            have t4 := Nat.eq_of_beq_eq_true t4
            obtain ⟨z, rfl, -⟩ := sv_val1 (v2.1.trans t4)
            rw [e0]
            exact ⟨rfl, trivial⟩
          | false =>
            rw [e0] at t4
            simp only [cond_false] at t4
            cases e1 : Nat.beq k1.2.1 1 with
            | true =>
              rw [e1] at t4
              simp only [cond_true, Bool.and_eq_true, sv_le_iff] at t4
              obtain ⟨⟨t4, t5⟩, t6⟩ := t4
              have e1 := Nat.eq_of_beq_eq_true e1
              have t4 := Nat.eq_of_beq_eq_true t4
              obtain ⟨z, rfl, ez⟩ := sv_val1 (v2.1.trans t4)
              have hb2 := v2.2.1 (by rw [t4]; decide)
              rw [ez] at hb2
              rw [e1]
              refine ⟨?_, trivial⟩
              show (decide ((-128 : Int32) ≤ z) && decide (z ≤ (127 : Int32))) = true
              rw [Bool.and_eq_true, decide_eq_true_eq, decide_eq_true_eq, Int32.le_iff_toInt_le, Int32.le_iff_toInt_le]
              have c1 : (-128 : Int32).toInt = -128 := by decide
              have c2 : (127 : Int32).toInt = 127 := by decide
              rw [c1, c2]
              omega
            | false =>
              rw [e1] at t4
              simp only [cond_false, Bool.and_eq_true] at t4
              have e2 := Nat.eq_of_beq_eq_true t4.1
              have t5 := Nat.eq_of_beq_eq_true t4.2
              obtain ⟨z, rfl, -⟩ := sv_val2 (v2.1.trans t5)
              rw [e2]
              exact ⟨rfl, trivial⟩)
        (g := F0 m pc ls (.int n :: .int y :: .ref b :: .int x :: .ref a :: rest)) rfl (by rw [hml]; exact hls) (rest := rest) rfl (by rw [hb]; exact hd) hfr (by show 2 * 0 + _ + (7 + 11) ≤ _; omega)
      have hfacts := Cell.storePairs_facts cd y.toNatClampNeg ((cs.stretch x.toNatClampNeg n.toNatClampNeg).zipIdx)
      obtain ⟨c1, c2, c3, -, -⟩ := hfacts
      have hH' : ((T.setVm vm').setCell b (copied cs cd x y n)).heap = H.setIfInBounds b (copied cs cd x y n) := by rw [← hTH]; rfl
      have hat : (H.setIfInBounds b (copied cs cd x y n))[b]? = some (copied cs cd x y n) := by simp [Array.getElem?_setIfInBounds, lb]
      have hoth : ∀ q, q ≠ b → (H.setIfInBounds b (copied cs cd x y n))[q]? = H[q]? := fun q hq => by simp [Array.getElem?_setIfInBounds, Ne.symm hq]
      have hsz : (H.setIfInBounds b (copied cs cd x y n)).size = H.size := by simp
      have hTI : sv_TI D AC kd B0 κ (H.setIfInBounds b (copied cs cd x y n)) := by
        refine sv_TI_aset hiv hT (K := k2) (by rw [kb]; exact hk2) cd1 hat hsz hoth c3 (Or.inr ⟨o2, c1.trans n1, c2.trans n2, by rw [show (copied cs cd x y n).slots.size = cd.slots.size from c3]; exact n3, by rw [show (copied cs cd x y n).slots.size = cd.slots.size from c3]; exact n4, fun T' hT' i v hv => ?_⟩) o2 hgne
        rw [hT2] at hT'
        cases hT'
        rw [hsz]
        rcases sv_sp_el hv with h9 | ⟨q, h9, rfl⟩
        · exact n5 i v h9
        · have h10 : q.1 ∈ cs.stretch x.toNatClampNeg n.toNatClampNeg := by
            have := List.mem_map_of_mem (f := Prod.fst) h9
            simpa using this
          obtain ⟨i0, h11, h12⟩ := List.mem_map.mp h10
          obtain ⟨v, v1, v2, v3⟩ := hel i0 (List.mem_range.mp h11)
          rw [v3] at h12
          rw [← h12]
          have hne : T1.1 ≠ 3 := by
            cases e0 : Nat.beq k1.2.1 0 with
            | true => rw [e0] at t4; rw [Nat.eq_of_beq_eq_true t4]; decide
            | false =>
              rw [e0] at t4
              simp only [cond_false] at t4
              cases e1 : Nat.beq k1.2.1 1 with
              | true =>
                rw [e1] at t4
                simp only [cond_true, Bool.and_eq_true] at t4
                rw [Nat.eq_of_beq_eq_true t4.1.1]; decide
              | false =>
                rw [e1] at t4
                simp only [cond_false, Bool.and_eq_true] at t4
                rw [Nat.eq_of_beq_eq_true t4.2]; decide
          have v21 := v2.2.1 hne
          exact ⟨v2.1.trans t1, fun _ => by omega, fun z => absurd (t1.trans z) hne⟩
      have hFr : sv_Fr D kd [] [K2] κ H (H.setIfInBounds b (copied cs cd x y n)) := by
        intro q c0 hc0
        by_cases e9 : q = b
        · subst e9
          rw [cd1] at hc0
          cases hc0
          refine ⟨_, hat, c1, c2, c3, fun z => absurd (kb.symm.trans z) kz2, fun K hK => ⟨fun z => ?_, fun _ z => absurd (by rw [kb]; exact List.mem_cons_self) z⟩⟩
          rw [kb, hk2] at hK
          cases hK
          rw [o2] at z
          cases z
        · exact ⟨c0, by rw [hoth q e9]; exact hc0, rfl, rfl, rfl, fun _ => rfl, fun _ _ => ⟨fun _ _ _ _ => rfl, fun _ _ => rfl⟩⟩
      have hsl : sv_slots (H.setIfInBounds b (copied cs cd x y n)) = sv_slots H := by
        have h9 := sv_slots_ext (H := H) (H' := H.setIfInBounds b (copied cs cd x y n)) (fun q c0 hc0 => by
          obtain ⟨c', f1, -, -, f2, -⟩ := hFr q c0 hc0
          exact ⟨c', f1, f2⟩)
        rw [h9, List.drop_eq_nil_of_le (by simp)]
        rfl
      refine ⟨none, T, (T.setVm vm').setCell b (copied cs cd x y n), (T.setVm vm').setCell b (copied cs cd x y n), _, hTH, X', (fun q hq => ?_), rfl, rfl, ⟨none, rfl, ?_⟩, st⟩
      · obtain ⟨u, hu, rfl⟩ := List.mem_map.mp hq
        show sv_free B0 κ H.size b
        by_cases hbB : B0 ≤ b
        · exact Or.inl ⟨hbB, by rw [kb]; exact kz2⟩
        · exfalso
          have h9 := (hT.2.1 b k2 (by omega) (by rw [kb]; exact kz2) (by rw [kb]; exact hk2)).2
          rcases h9 with h9 | h9
          · rw [o4] at h9; cases h9
          · have h9 := h9 cd cd1
            have : n.toNatClampNeg = 0 := by omega
            rw [this] at hu
            simp [Cell.stretch] at hu
      · rw [hH']
        refine ⟨κ, hTI, hFr, by rw [hsz]; exact Nat.le_refl _, fun q _ => Or.inl rfl, by rw [hsl]; exact Nat.le_refl _, _, List.mem_cons_self, [], by simpa [sv_spC] using p2, fun f hf => ?_, trivial⟩
        rw [List.append_nil]
        rcases List.mem_cons.mp hf with rfl | hf
        · exact ⟨[_], sv_evs_cons.mpr ⟨_, _, sv_ev_v p0, rfl, rfl⟩, by show ((H.setIfInBounds b _).size : Int) = _; rw [hsz]⟩
        · have hf : f = (8, [], [sv_v 1]) := by simpa using hf
          subst hf
          exact ⟨[_], sv_evs_cons.mpr ⟨_, _, sv_ev_v p1, rfl, rfl⟩, by show (sv_slots (H.setIfInBounds b _) : Int) = _; rw [hsl]⟩
    · cases o6
  · cases hok
end SVCPY
