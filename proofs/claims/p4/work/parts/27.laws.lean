-- ===== laws =====
section SVFO
variable {P : Nat → List Nat → List Int → (Nat → Nat) → Heap → Prop} {D : va_G} {AC : Nat → ClassId} {kd : List SvK} {B0 : Nat} {κ : Nat → Nat} {H : Heap} {ρ : List Int}
theorem sv_fo0 {e : SvL} {st : List Nat} (h : sv_FOk P D kd κ H ρ (0, st, [e])) : ∃ x, sv_ev ρ e = some x ∧ 0 ≤ x := by
  obtain ⟨vs, f1, f2⟩ := h
  obtain ⟨y1, z1, f3, f4, rfl⟩ := sv_evs_cons.mp f1
  simp only [sv_evs, Option.some.injEq] at f4
  subst f4
  exact ⟨y1, f3, f2⟩
theorem sv_fo1 {e : SvL} {K : Nat} (h : sv_FOk P D kd κ H ρ (1, [K], [e])) : K ≠ 0 ∧ ∃ x, sv_ev ρ e = some x ∧ (x = -1 ∨ ∃ q : Nat, x = (q : Int) ∧ q < H.size ∧ κ q = K) := by
  obtain ⟨vs, f1, f2⟩ := h
  obtain ⟨y1, z1, f3, f4, rfl⟩ := sv_evs_cons.mp f1
  simp only [sv_evs, Option.some.injEq] at f4
  subst f4
  exact ⟨f2.1, y1, f3, f2.2⟩
theorem sv_fo2 {e1 e2 : SvL} {st : List Nat} (h : sv_FOk P D kd κ H ρ (2, st, [e1, e2])) : ∃ x n, sv_ev ρ e1 = some x ∧ sv_ev ρ e2 = some n ∧ ∀ q : Nat, x = (q : Int) → ∃ cell : Cell, H[q]? = some cell ∧ (cell.slots.size : Int) = n := by
  obtain ⟨vs, f1, f2⟩ := h
  obtain ⟨y1, z1, f3, f4, rfl⟩ := sv_evs_cons.mp f1
  obtain ⟨y2, z2, f5, f6, rfl⟩ := sv_evs_cons.mp f4
  simp only [sv_evs, Option.some.injEq] at f6
  subst f6
  exact ⟨y1, y2, f3, f5, f2⟩
theorem sv_fo3 {K ci f t : Nat} {e1 e2 : SvL} (h : sv_FOk P D kd κ H ρ (3, [K, ci, f, t], [e1, e2])) : ∃ x y, sv_ev ρ e1 = some x ∧ sv_ev ρ e2 = some y ∧ ∀ q : Nat, x = (q : Int) → κ q = K ∧ ∃ (cell : Cell) (v : Value), H[q]? = some cell ∧ cell.slots[D.2 ci f]? = some v ∧ sv_tag v = t ∧ sv_enc v = y := by
  obtain ⟨vs, f1, f2⟩ := h
  obtain ⟨y1, z1, f3, f4, rfl⟩ := sv_evs_cons.mp f1
  obtain ⟨y2, z2, f5, f6, rfl⟩ := sv_evs_cons.mp f4
  simp only [sv_evs, Option.some.injEq] at f6
  subst f6
  exact ⟨y1, y2, f3, f5, f2.2.2⟩
theorem sv_fo4 {K t : Nat} {e1 e2 e3 : SvL} (h : sv_FOk P D kd κ H ρ (4, [K, t], [e1, e2, e3])) : ∃ x i y, sv_ev ρ e1 = some x ∧ sv_ev ρ e2 = some i ∧ sv_ev ρ e3 = some y ∧ ∀ q j : Nat, x = (q : Int) → i = (j : Int) → κ q = K ∧ ∃ cell : Cell, H[q]? = some cell ∧ (j < cell.slots.size → ∃ v, cell.slots[j]? = some v ∧ sv_tag v = t ∧ sv_enc v = y) := by
  obtain ⟨vs, f1, f2⟩ := h
  obtain ⟨y1, z1, f3, f4, rfl⟩ := sv_evs_cons.mp f1
  obtain ⟨y2, z2, f5, f6, rfl⟩ := sv_evs_cons.mp f4
  obtain ⟨y3, z3, f7, f8, rfl⟩ := sv_evs_cons.mp f6
  simp only [sv_evs, Option.some.injEq] at f8
  subst f8
  exact ⟨y1, y2, y3, f3, f5, f7, f2.2.2⟩
theorem sv_fok0 {e : SvL} {x : Int} (h : sv_ev ρ e = some x) (h0 : 0 ≤ x) : sv_FOk P D kd κ H ρ (0, [], [e]) := ⟨[x], sv_evs_cons.mpr ⟨_, _, h, rfl, rfl⟩, h0⟩
def sv_lw_items : SvM := ([(0, none), (-9223372036854775808, none), (0, none), (0, none), (-1, none)], [(1, [g_tree], [sv_v 0]), (3, [g_tree, g_treeC, g_total, 1], [sv_v 0, sv_v 1]), (3, [g_tree, g_treeC, g_items, 3], [sv_v 0, sv_v 2]), (4, [g_aitems, 3], [sv_v 2, sv_v 3, sv_v 4]), (0, [], [sv_addc (sv_sub (sv_v 1) (sv_v 3)) (-1)])], [(0, [], [sv_v 4])])
theorem sv_lw_items_ok : sv_LmOk P D AC kd B0 [sv_lw_items] := by
  intro m hm κ H ρ hT hb hf f hfc
  rw [List.mem_singleton] at hm
  subst hm
  have hfc : f ∈ [((0, [], [sv_v 4]) : SvF)] := hfc
  rw [List.mem_singleton] at hfc
  subst hfc
  obtain ⟨-, x0, a1, a2⟩ := sv_fo1 (hf (1, [g_tree], [sv_v 0]) (by simp [sv_lw_items]))
  obtain ⟨y0, n, b1, b2, b3⟩ := sv_fo3 (hf (3, [g_tree, g_treeC, g_total, 1], [sv_v 0, sv_v 1]) (by simp [sv_lw_items]))
  obtain ⟨z0, a, c1, c2, c3⟩ := sv_fo3 (hf (3, [g_tree, g_treeC, g_items, 3], [sv_v 0, sv_v 2]) (by simp [sv_lw_items]))
  obtain ⟨w0, i, y, d1, d2, d3, d4⟩ := sv_fo4 (hf (4, [g_aitems, 3], [sv_v 2, sv_v 3, sv_v 4]) (by simp [sv_lw_items]))
  obtain ⟨u, e1, e2⟩ := sv_fo0 (hf (0, [], [sv_addc (sv_sub (sv_v 1) (sv_v 3)) (-1)]) (by simp [sv_lw_items]))
  rw [a1] at b1 c1
  cases b1
  cases c1
  rw [c2] at d1
  cases d1
  have e3 := sv_ev_addc (k := -1) (sv_ev_sub b2 d2)
  rw [e1] at e3
  have e3 : u = n - i + -1 := Option.some.inj e3
  have g0 : 0 ≤ x0 := (hb.2 0 _ (0, none) (sv_ev_v_inv a1) rfl).1
  have g2 : 0 ≤ a := (hb.2 2 _ (0, none) (sv_ev_v_inv c2) rfl).1
  have g3 : 0 ≤ i := (hb.2 3 _ (0, none) (sv_ev_v_inv d2) rfl).1
  rcases a2 with a2 | ⟨q, rfl, a3, a4⟩
  · omega
  · obtain ⟨-, cell, vn, b4, b5, b6, b7⟩ := b3 q rfl
    obtain ⟨-, cell', va, c4, c5, c6, c7⟩ := c3 q rfl
    rw [b4] at c4
    cases c4
    obtain ⟨n0, rfl, b8⟩ := sv_val1 b6
    have b9 : n0.toInt = n := b8 ▸ b7
    rcases sv_val3 c6 with ⟨rfl, c8⟩ | ⟨b, rfl, c8⟩
    · omega
    · have hi : i = ((i.toNat : Nat) : Int) := (Int.toNat_of_nonneg g3).symm
      obtain ⟨-, ca, d5, d6⟩ := d4 b i.toNat (by rw [← c7, c8]) hi
      obtain ⟨b', hb'⟩ := hT.2.2.2.1 q b cell ca n0 a4 b4 b5 c5 d5 i.toNat (by omega)
      obtain ⟨v, v1, v2, v3⟩ := d6 (Array.getElem?_eq_some_iff.mp hb').1
      rw [hb'] at v1
      cases v1
      refine sv_fok0 d3 ?_
      rw [← v3]
      exact Int.natCast_nonneg b'
def sv_lw_vols : SvM := ([(0, none), (0, none), (0, none), (-9223372036854775808, none), (-9223372036854775808, none)], [(1, [g_vols], [sv_v 0]), (2, [], [sv_v 0, sv_v 4]), (4, [g_vols, 3], [sv_v 0, sv_v 1, sv_v 2]), (3, [g_vol, g_volC, g_size, 1], [sv_v 2, sv_v 3]), (0, [], [sv_addc (sv_sub (sv_v 4) (sv_v 1)) (-1)])], [(0, [], [sv_addc (sv_sc (-1) (sv_v 3)) 256])])
theorem sv_lw_vols_ok : sv_LmOk P D AC kd B0 [sv_lw_vols] := by
  intro m hm κ H ρ hT hb hf f hfc
  rw [List.mem_singleton] at hm
  subst hm
  have hfc : f ∈ [((0, [], [sv_addc (sv_sc (-1) (sv_v 3)) 256]) : SvF)] := hfc
  rw [List.mem_singleton] at hfc
  subst hfc
  obtain ⟨-, x0, a1, a2⟩ := sv_fo1 (hf (1, [g_vols], [sv_v 0]) (by simp [sv_lw_vols]))
  obtain ⟨y0, n, b1, b2, b3⟩ := sv_fo2 (hf (2, [], [sv_v 0, sv_v 4]) (by simp [sv_lw_vols]))
  obtain ⟨w0, i, y, d1, d2, d3, d4⟩ := sv_fo4 (hf (4, [g_vols, 3], [sv_v 0, sv_v 1, sv_v 2]) (by simp [sv_lw_vols]))
  obtain ⟨z0, s, c1, c2, c3⟩ := sv_fo3 (hf (3, [g_vol, g_volC, g_size, 1], [sv_v 2, sv_v 3]) (by simp [sv_lw_vols]))
  obtain ⟨u, e1, e2⟩ := sv_fo0 (hf (0, [], [sv_addc (sv_sub (sv_v 4) (sv_v 1)) (-1)]) (by simp [sv_lw_vols]))
  rw [a1] at b1 d1
  cases b1
  cases d1
  rw [d3] at c1
  cases c1
  have e3 := sv_ev_addc (k := -1) (sv_ev_sub b2 d2)
  rw [e1] at e3
  have e3 : u = n - i + -1 := Option.some.inj e3
  have g0 : 0 ≤ x0 := (hb.2 0 _ (0, none) (sv_ev_v_inv a1) rfl).1
  have g1 : 0 ≤ i := (hb.2 1 _ (0, none) (sv_ev_v_inv d2) rfl).1
  have g2 : 0 ≤ y := (hb.2 2 _ (0, none) (sv_ev_v_inv d3) rfl).1
  refine sv_fok0 (sv_ev_addc (sv_ev_sc c2)) ?_
  rcases a2 with a2 | ⟨q, rfl, a3, a4⟩
  · omega
  · obtain ⟨cell, b4, b5⟩ := b3 q rfl
    have hi : i = ((i.toNat : Nat) : Int) := (Int.toNat_of_nonneg g1).symm
    obtain ⟨-, cell', d5, d6⟩ := d4 q i.toNat rfl hi
    rw [b4] at d5
    cases d5
    obtain ⟨v, v1, v2, v3⟩ := d6 (by omega)
    rcases sv_val3 v2 with ⟨rfl, v4⟩ | ⟨b, rfl, v4⟩
    · omega
    · obtain ⟨-, cb, vs, c4, c5, c6, c7⟩ := c3 b (by rw [← v3, v4])
      obtain ⟨n0, rfl, c8⟩ := sv_val1 c6
      have c9 : n0.toInt = s := c8 ▸ c7
      have := hT.2.2.2.2.1 q i.toNat b cell cb n0 a4 b4 v1 c4 c5
      show 0 ≤ -1 * s + 256
      omega
def sv_lw_null : SvM := ([(-1, some (-1)), (-9223372036854775808, none)], [], [(3, [g_vol, g_volC, g_size, 1], [sv_v 0, sv_v 1])])
theorem sv_lw_null_ok (hgk : sv_Gk kd = true) : sv_LmOk P D AC kd B0 [sv_lw_null] := by
  intro m hm κ H ρ hT hb hf f hfc
  rw [List.mem_singleton] at hm
  subst hm
  have hfc : f ∈ [((3, [g_vol, g_volC, g_size, 1], [sv_v 0, sv_v 1]) : SvF)] := hfc
  rw [List.mem_singleton] at hfc
  subst hfc
  obtain ⟨-, -, -, ⟨ko, o1, o2, o3, Ts, s1, s2⟩, -⟩ := sv_Gk_ok hgk
  have hl : ρ.length = 2 := hb.1
  match ρ, hl with
  | [x0, x1], _ =>
    refine ⟨[x0, x1], by simp [sv_evs, sv_ev, sv_evT, sv_v, sv_nth], by decide, ⟨ko, o1, o2, o3, sv_nl s1⟩, fun q hq => ?_⟩
    have := (hb.2 0 x0 (-1, some (-1)) rfl (by rfl)).2 (-1) rfl
    omega
def sv_lw_facts (r : Nat) : SvM := ([(0, none), (0, none), (-9223372036854775808, none), (-9223372036854775808, none)], [(1, [g_facts], [sv_v 0]), (2, [], [sv_v 0, sv_v 3]), (4, [g_facts, 1], [sv_v 0, sv_addc (sv_sc 5 (sv_v 1)) (r : Int), sv_v 2]), (0, [], [sv_addc (sv_sub (sv_v 3) (sv_addc (sv_sc 5 (sv_v 1)) (r : Int))) (-1)])], [(0, [], [sv_v 2]), (0, [], [sv_addc (sv_sc (-1) (sv_v 2)) 5000])])
theorem sv_lw_facts_ok {r : Nat} (hr : r = 1 ∨ r = 2) : sv_LmOk P D AC kd B0 [sv_lw_facts r] := by
  intro m hm κ H ρ hT hb hf f hfc
  rw [List.mem_singleton] at hm
  subst hm
  obtain ⟨-, x0, a1, a2⟩ := sv_fo1 (hf (1, [g_facts], [sv_v 0]) (by simp [sv_lw_facts]))
  obtain ⟨y0, n, b1, b2, b3⟩ := sv_fo2 (hf (2, [], [sv_v 0, sv_v 3]) (by simp [sv_lw_facts]))
  obtain ⟨w0, i, y, d1, d2, d3, d4⟩ := sv_fo4 (hf (4, [g_facts, 1], [sv_v 0, sv_addc (sv_sc 5 (sv_v 1)) (r : Int), sv_v 2]) (by simp [sv_lw_facts]))
  obtain ⟨u, e1, e2⟩ := sv_fo0 (hf (0, [], [sv_addc (sv_sub (sv_v 3) (sv_addc (sv_sc 5 (sv_v 1)) (r : Int))) (-1)]) (by simp [sv_lw_facts]))
  rw [a1] at b1 d1
  cases b1
  cases d1
  have e3 := sv_ev_addc (k := -1) (sv_ev_sub b2 d2)
  rw [e1] at e3
  have e3 : u = n - i + -1 := Option.some.inj e3
  have hl : ρ.length = 4 := hb.1
  obtain ⟨e, he⟩ : ∃ e, sv_ev ρ (sv_v 1) = some e := sv_wf_ok hb (by rfl)
  have h5 := sv_ev_addc (k := (r : Int)) (sv_ev_sc (k := 5) he)
  rw [d2] at h5
  have h5 : i = 5 * e + (r : Int) := Option.some.inj h5
  have g0 : 0 ≤ x0 := (hb.2 0 _ (0, none) (sv_ev_v_inv a1) rfl).1
  have g1 : 0 ≤ e := (hb.2 1 _ (0, none) (sv_ev_v_inv he) rfl).1
  have key : 0 ≤ y ∧ y ≤ 5000 := by
    rcases a2 with a2 | ⟨q, rfl, a3, a4⟩
    · omega
    · obtain ⟨cell, b4, b5⟩ := b3 q rfl
      have hi : i = ((i.toNat : Nat) : Int) := (Int.toNat_of_nonneg (by omega)).symm
      obtain ⟨-, cell', d5, d6⟩ := d4 q i.toNat rfl hi
      rw [b4] at d5
      cases d5
      obtain ⟨v, v1, v2, v3⟩ := d6 (by omega)
      obtain ⟨n0, rfl, v4⟩ := sv_val1 v2
      have v5 : n0.toInt = y := v4 ▸ v3
      rw [← v5]
      have h6 : i.toNat = 5 * e.toNat + r := by
        clear d6 d4 v1 v3 v4 v5 v2
        omega
      have h7 : i.toNat % 5 = 1 ∨ i.toNat % 5 = 2 := by
        rw [h6, Nat.mul_add_mod]
        rcases hr with hr | hr
        · exact Or.inl (by rw [hr])
        · exact Or.inr (by rw [hr])
      exact hT.2.2.2.2.2 q i.toNat cell n0 a4 b4 v1 h7
  have hfc : f ∈ [((0, [], [sv_v 2]) : SvF), (0, [], [sv_addc (sv_sc (-1) (sv_v 2)) 5000])] := hfc
  rcases List.mem_cons.mp hfc with rfl | hfc
  · exact sv_fok0 d3 key.1
  · rw [List.mem_singleton] at hfc
    subst hfc
    refine sv_fok0 (sv_ev_addc (sv_ev_sc d3)) ?_
    show 0 ≤ -1 * y + 5000
    omega
def sv_L0 : List SvM := [sv_lw_items, sv_lw_vols, sv_lw_null, sv_lw_facts 1, sv_lw_facts 2]
theorem sv_LmOk_cons {m : SvM} {L : List SvM} (h1 : sv_LmOk P D AC kd B0 [m]) (h2 : sv_LmOk P D AC kd B0 L) : sv_LmOk P D AC kd B0 (m :: L) := fun m' hm => by
  rcases List.mem_cons.mp hm with rfl | hm
  · exact h1 m' List.mem_cons_self
  · exact h2 m' hm
theorem sv_L0_ok (hgk : sv_Gk kd = true) : sv_LmOk P D AC kd B0 sv_L0 :=
  sv_LmOk_cons sv_lw_items_ok (sv_LmOk_cons sv_lw_vols_ok (sv_LmOk_cons (sv_lw_null_ok hgk) (sv_LmOk_cons (sv_lw_facts_ok (Or.inl rfl)) (sv_lw_facts_ok (Or.inr rfl)))))
end SVFO
