-- ===== laws of opaque facts =====
-- vol_4
def q_l30 : SvM := ([(0, none), (0, none), (0, none), (0, none), (-1180591620717411303424, none), (-1180591620717411303424, none), (-1180591620717411303424, none), (-1180591620717411303424, none), (-1180591620717411303424, none), (-1180591620717411303424, none), (-1180591620717411303424, none), (-1180591620717411303424, none), (-1180591620717411303424, none), (-1180591620717411303424, none)], [(21, [], [(0, [(0, 1)]), (0, [(1, 1)]), (0, [(2, 1)]), (0, [(3, 1)]), (0, [(4, 1)])]), (0, [], [(0, [(5, 1)])]), (0, [], [(-1, [(4, 1), (5, -1)])]), (4, [42, 1], [(0, [(0, 1)]), (0, [(5, 1)]), (0, [(6, 1)])]), (2, [], [(0, [(0, 1)]), (0, [(7, 1)])]), (0, [], [(-1, [(5, -1), (7, 1)])]), (4, [45, 1], [(0, [(1, 1)]), (0, [(5, 1)]), (0, [(8, 1)])]), (2, [], [(0, [(1, 1)]), (0, [(9, 1)])]), (0, [], [(-1, [(5, -1), (9, 1)])]), (4, [46, 1], [(0, [(2, 1)]), (0, [(10, 1)]), (0, [(11, 1)])]), (2, [], [(0, [(2, 1)]), (0, [(12, 1)])]), (0, [], [(-1, [(10, -1), (12, 1)])]), (0, [], [(0, [(5, -3), (10, 1)])]), (4, [45, 1], [(0, [(1, 1)]), (0, [(11, 1)]), (0, [(13, 1)])]), (0, [], [(-1, [(9, 1), (11, -1)])]), (0, [], [(0, [(11, 1)])]), (0, [], [(-4, [(6, 1)])]), (0, [], [(4, [(6, -1)])]), (0, [], [(2, [(5, 3), (10, -1)])])], [(0, [], [(0, [(8, -1), (13, 2)])])])
theorem q_l30_ok : ∀ (g : Int → Int → Int) (ln : Int → Int) (kf : Int → Nat) (ρ : List Int), sv_BOk ρ q_l30.1 → (∀ f ∈ q_l30.2.1, sv_FQk q_Ks q_Q g ln kf ρ f) → ∀ f ∈ q_l30.2.2, sv_FQk q_Ks q_Q g ln kf ρ f := by
  intro g ln kf ρ hb hf
  obtain ⟨hl, hb⟩ := hb
  obtain ⟨xs, r0, rfl, l0⟩ := sv_lens hl
  obtain ⟨xb, r1, rfl, l1⟩ := sv_lens l0
  obtain ⟨xm, r2, rfl, l2⟩ := sv_lens l1
  obtain ⟨xg, r3, rfl, l3⟩ := sv_lens l2
  obtain ⟨xn, r4, rfl, l4⟩ := sv_lens l3
  obtain ⟨xv, r5, rfl, l5⟩ := sv_lens l4
  obtain ⟨xx, r6, rfl, l6⟩ := sv_lens l5
  obtain ⟨xNS, r7, rfl, l7⟩ := sv_lens l6
  obtain ⟨xy, r8, rfl, l8⟩ := sv_lens l7
  obtain ⟨xNB, r9, rfl, l9⟩ := sv_lens l8
  obtain ⟨xw, r10, rfl, l10⟩ := sv_lens l9
  obtain ⟨xc, r11, rfl, l11⟩ := sv_lens l10
  obtain ⟨xNM, r12, rfl, l12⟩ := sv_lens l11
  obtain ⟨xe, r13, rfl, l13⟩ := sv_lens l12
  obtain rfl := sv_len0 l13
  clear l0 l1 l2 l3 l4 l5 l6 l7 l8 l9 l10 l11 l12 l13 hl
  have bs : 0 ≤ xs := (hb 0 _ _ rfl rfl).1
  have bb : 0 ≤ xb := (hb 1 _ _ rfl rfl).1
  have bm : 0 ≤ xm := (hb 2 _ _ rfl rfl).1
  have bg : 0 ≤ xg := (hb 3 _ _ rfl rfl).1
  clear hb
  have h0 := hf _ (List.mem_of_getElem? (i := 0) rfl)
  simp [sv_FQk, sv_FQ, sv_evs, sv_ev, sv_evT, sv_nth, sv_adq, sv_gs, q_Ks_5, q_Q_5] at h0
  have h1 := hf _ (List.mem_of_getElem? (i := 1) rfl)
  simp [sv_FQk, sv_FQ, sv_evs, sv_ev, sv_evT, sv_nth, sv_adq, sv_gs] at h1
  have h2 := hf _ (List.mem_of_getElem? (i := 2) rfl)
  simp [sv_FQk, sv_FQ, sv_evs, sv_ev, sv_evT, sv_nth, sv_adq, sv_gs] at h2
  have h3 := hf _ (List.mem_of_getElem? (i := 3) rfl)
  simp [sv_FQk, sv_FQ, sv_evs, sv_ev, sv_evT, sv_nth, sv_adq, sv_gs] at h3
  have h4 := hf _ (List.mem_of_getElem? (i := 4) rfl)
  simp [sv_FQk, sv_FQ, sv_evs, sv_ev, sv_evT, sv_nth, sv_adq, sv_gs] at h4
  have h5 := hf _ (List.mem_of_getElem? (i := 5) rfl)
  simp [sv_FQk, sv_FQ, sv_evs, sv_ev, sv_evT, sv_nth, sv_adq, sv_gs] at h5
  have h6 := hf _ (List.mem_of_getElem? (i := 6) rfl)
  simp [sv_FQk, sv_FQ, sv_evs, sv_ev, sv_evT, sv_nth, sv_adq, sv_gs] at h6
  have h7 := hf _ (List.mem_of_getElem? (i := 7) rfl)
  simp [sv_FQk, sv_FQ, sv_evs, sv_ev, sv_evT, sv_nth, sv_adq, sv_gs] at h7
  have h8 := hf _ (List.mem_of_getElem? (i := 8) rfl)
  simp [sv_FQk, sv_FQ, sv_evs, sv_ev, sv_evT, sv_nth, sv_adq, sv_gs] at h8
  have h9 := hf _ (List.mem_of_getElem? (i := 9) rfl)
  simp [sv_FQk, sv_FQ, sv_evs, sv_ev, sv_evT, sv_nth, sv_adq, sv_gs] at h9
  have h10 := hf _ (List.mem_of_getElem? (i := 10) rfl)
  simp [sv_FQk, sv_FQ, sv_evs, sv_ev, sv_evT, sv_nth, sv_adq, sv_gs] at h10
  have h11 := hf _ (List.mem_of_getElem? (i := 11) rfl)
  simp [sv_FQk, sv_FQ, sv_evs, sv_ev, sv_evT, sv_nth, sv_adq, sv_gs] at h11
  have h12 := hf _ (List.mem_of_getElem? (i := 12) rfl)
  simp [sv_FQk, sv_FQ, sv_evs, sv_ev, sv_evT, sv_nth, sv_adq, sv_gs] at h12
  have h13 := hf _ (List.mem_of_getElem? (i := 13) rfl)
  simp [sv_FQk, sv_FQ, sv_evs, sv_ev, sv_evT, sv_nth, sv_adq, sv_gs] at h13
  have h14 := hf _ (List.mem_of_getElem? (i := 14) rfl)
  simp [sv_FQk, sv_FQ, sv_evs, sv_ev, sv_evT, sv_nth, sv_adq, sv_gs] at h14
  have h15 := hf _ (List.mem_of_getElem? (i := 15) rfl)
  simp [sv_FQk, sv_FQ, sv_evs, sv_ev, sv_evT, sv_nth, sv_adq, sv_gs] at h15
  have h16 := hf _ (List.mem_of_getElem? (i := 16) rfl)
  simp [sv_FQk, sv_FQ, sv_evs, sv_ev, sv_evT, sv_nth, sv_adq, sv_gs] at h16
  have h17 := hf _ (List.mem_of_getElem? (i := 17) rfl)
  simp [sv_FQk, sv_FQ, sv_evs, sv_ev, sv_evT, sv_nth, sv_adq, sv_gs] at h17
  have h18 := hf _ (List.mem_of_getElem? (i := 18) rfl)
  simp [sv_FQk, sv_FQ, sv_evs, sv_ev, sv_evT, sv_nth, sv_adq, sv_gs] at h18
  clear hf
  obtain ⟨⟨⟨-, Ks⟩, ⟨-, Kb⟩, ⟨-, Km⟩, ⟨-, Kg⟩⟩, h0⟩ := h0
  rw [sv_Qvol_iff] at h0
  replace h3 := h3 bs (by omega) (by have := h4 bs; omega)
  replace h6 := h6 bb (by omega) (by have := h7 bb; omega)
  replace h9 := h9 bm (by omega) (by have := h10 bm; omega)
  replace h13 := h13 bb (by omega) (by have := h7 bb; omega)
  intro f hf
  have hf : f ∈ [(0, [], [(0, [(8, -1), (13, 2)])])] := hf
  simp only [List.mem_cons, List.not_mem_nil, or_false] at hf
  subst hf
  · simp [sv_FQk, sv_FQ, sv_evs, sv_ev, sv_evT, sv_nth, sv_adq, sv_gs]
    have q := h0 xv (by omega) (by omega)
    unfold sv_vr at q
    replace q := q.2.2.2.2.2 (by omega)
    rcases (by omega : xw = 3 * xv ∨ xw = 1 + 3 * xv ∨ xw = 2 + 3 * xv) with e | e | e
    all_goals first | omega | (rw [e] at h9; rw [h9] at q; omega)
-- vol_0
def q_l31 : SvM := ([(0, none), (0, none), (0, none), (0, none), (-1180591620717411303424, none)], [(1, [42], [(0, [(0, 1)])]), (1, [45], [(0, [(1, 1)])]), (1, [46], [(0, [(2, 1)])]), (1, [44], [(0, [(3, 1)])]), (0, [], [(0, [(4, -1)])])], [(21, [], [(0, [(0, 1)]), (0, [(1, 1)]), (0, [(2, 1)]), (0, [(3, 1)]), (0, [(4, 1)])])])
theorem q_l31_ok : ∀ (g : Int → Int → Int) (ln : Int → Int) (kf : Int → Nat) (ρ : List Int), sv_BOk ρ q_l31.1 → (∀ f ∈ q_l31.2.1, sv_FQk q_Ks q_Q g ln kf ρ f) → ∀ f ∈ q_l31.2.2, sv_FQk q_Ks q_Q g ln kf ρ f := by
  intro g ln kf ρ hb hf
  obtain ⟨hl, hb⟩ := hb
  obtain ⟨xs, r0, rfl, l0⟩ := sv_lens hl
  obtain ⟨xb, r1, rfl, l1⟩ := sv_lens l0
  obtain ⟨xm, r2, rfl, l2⟩ := sv_lens l1
  obtain ⟨xg, r3, rfl, l3⟩ := sv_lens l2
  obtain ⟨xn, r4, rfl, l4⟩ := sv_lens l3
  obtain rfl := sv_len0 l4
  clear l0 l1 l2 l3 l4 hl
  have bs : 0 ≤ xs := (hb 0 _ _ rfl rfl).1
  have bb : 0 ≤ xb := (hb 1 _ _ rfl rfl).1
  have bm : 0 ≤ xm := (hb 2 _ _ rfl rfl).1
  have bg : 0 ≤ xg := (hb 3 _ _ rfl rfl).1
  clear hb
  have h0 := hf _ (List.mem_of_getElem? (i := 0) rfl)
  simp [sv_FQk, sv_FQ, sv_evs, sv_ev, sv_evT, sv_nth, sv_adq, sv_gs] at h0
  have h1 := hf _ (List.mem_of_getElem? (i := 1) rfl)
  simp [sv_FQk, sv_FQ, sv_evs, sv_ev, sv_evT, sv_nth, sv_adq, sv_gs] at h1
  have h2 := hf _ (List.mem_of_getElem? (i := 2) rfl)
  simp [sv_FQk, sv_FQ, sv_evs, sv_ev, sv_evT, sv_nth, sv_adq, sv_gs] at h2
  have h3 := hf _ (List.mem_of_getElem? (i := 3) rfl)
  simp [sv_FQk, sv_FQ, sv_evs, sv_ev, sv_evT, sv_nth, sv_adq, sv_gs] at h3
  have h4 := hf _ (List.mem_of_getElem? (i := 4) rfl)
  simp [sv_FQk, sv_FQ, sv_evs, sv_ev, sv_evT, sv_nth, sv_adq, sv_gs] at h4
  clear hf
  have Ks : kf xs = 42 := by omega
  have Kb : kf xb = 45 := by omega
  have Km : kf xm = 46 := by omega
  have Kg : kf xg = 44 := by omega
  intro f hf
  have hf : f ∈ [(21, [], [(0, [(0, 1)]), (0, [(1, 1)]), (0, [(2, 1)]), (0, [(3, 1)]), (0, [(4, 1)])])] := hf
  simp only [List.mem_cons, List.not_mem_nil, or_false] at hf
  subst hf
  · simp [sv_FQk, sv_FQ, sv_evs, sv_ev, sv_evT, sv_nth, sv_adq, sv_gs, q_Ks_5, q_Q_5]
    refine ⟨⟨⟨bs, Ks⟩, ⟨bb, Kb⟩, ⟨bm, Km⟩, ⟨bg, Kg⟩⟩, ?_⟩
    rw [sv_Qvol_iff]
    intro v v1 v2
    omega
-- vol_a
def q_l32 : SvM := ([(0, none), (0, none), (0, none), (0, none), (-1180591620717411303424, none), (-1180591620717411303424, none), (-1180591620717411303424, none), (-1180591620717411303424, none), (-1180591620717411303424, none)], [(21, [], [(0, [(0, 1)]), (0, [(1, 1)]), (0, [(2, 1)]), (0, [(3, 1)]), (0, [(4, 1)])]), (22, [], [(0, [(1, 1)]), (0, [(2, 1)]), (0, [(3, 1)]), (0, [(4, 1)]), (0, [(5, 1)]), (0, [(7, 1)])]), (4, [42, 1], [(0, [(0, 1)]), (0, [(4, 1)]), (0, [(5, 1)])]), (2, [], [(0, [(0, 1)]), (0, [(6, 1)])]), (0, [], [(-1, [(4, -1), (6, 1)])]), (4, [45, 1], [(0, [(1, 1)]), (0, [(4, 1)]), (0, [(7, 1)])]), (2, [], [(0, [(1, 1)]), (0, [(8, 1)])]), (0, [], [(-1, [(4, -1), (8, 1)])]), (0, [], [(0, [(4, 1)])])], [(21, [], [(0, [(0, 1)]), (0, [(1, 1)]), (0, [(2, 1)]), (0, [(3, 1)]), (1, [(4, 1)])])])
theorem q_l32_ok : ∀ (g : Int → Int → Int) (ln : Int → Int) (kf : Int → Nat) (ρ : List Int), sv_BOk ρ q_l32.1 → (∀ f ∈ q_l32.2.1, sv_FQk q_Ks q_Q g ln kf ρ f) → ∀ f ∈ q_l32.2.2, sv_FQk q_Ks q_Q g ln kf ρ f := by
  intro g ln kf ρ hb hf
  obtain ⟨hl, hb⟩ := hb
  obtain ⟨xs, r0, rfl, l0⟩ := sv_lens hl
  obtain ⟨xb, r1, rfl, l1⟩ := sv_lens l0
  obtain ⟨xm, r2, rfl, l2⟩ := sv_lens l1
  obtain ⟨xg, r3, rfl, l3⟩ := sv_lens l2
  obtain ⟨xn, r4, rfl, l4⟩ := sv_lens l3
  obtain ⟨xx, r5, rfl, l5⟩ := sv_lens l4
  obtain ⟨xNS, r6, rfl, l6⟩ := sv_lens l5
  obtain ⟨xy, r7, rfl, l7⟩ := sv_lens l6
  obtain ⟨xNB, r8, rfl, l8⟩ := sv_lens l7
  obtain rfl := sv_len0 l8
  clear l0 l1 l2 l3 l4 l5 l6 l7 l8 hl
  have bs : 0 ≤ xs := (hb 0 _ _ rfl rfl).1
  have bb : 0 ≤ xb := (hb 1 _ _ rfl rfl).1
  have bm : 0 ≤ xm := (hb 2 _ _ rfl rfl).1
  have bg : 0 ≤ xg := (hb 3 _ _ rfl rfl).1
  clear hb
  have h0 := hf _ (List.mem_of_getElem? (i := 0) rfl)
  simp [sv_FQk, sv_FQ, sv_evs, sv_ev, sv_evT, sv_nth, sv_adq, sv_gs, q_Ks_5, q_Q_5] at h0
  have h1 := hf _ (List.mem_of_getElem? (i := 1) rfl)
  simp [sv_FQk, sv_FQ, sv_evs, sv_ev, sv_evT, sv_nth, sv_adq, sv_gs, q_Ks_6, q_Q_6] at h1
  have h2 := hf _ (List.mem_of_getElem? (i := 2) rfl)
  simp [sv_FQk, sv_FQ, sv_evs, sv_ev, sv_evT, sv_nth, sv_adq, sv_gs] at h2
  have h3 := hf _ (List.mem_of_getElem? (i := 3) rfl)
  simp [sv_FQk, sv_FQ, sv_evs, sv_ev, sv_evT, sv_nth, sv_adq, sv_gs] at h3
  have h4 := hf _ (List.mem_of_getElem? (i := 4) rfl)
  simp [sv_FQk, sv_FQ, sv_evs, sv_ev, sv_evT, sv_nth, sv_adq, sv_gs] at h4
  have h5 := hf _ (List.mem_of_getElem? (i := 5) rfl)
  simp [sv_FQk, sv_FQ, sv_evs, sv_ev, sv_evT, sv_nth, sv_adq, sv_gs] at h5
  have h6 := hf _ (List.mem_of_getElem? (i := 6) rfl)
  simp [sv_FQk, sv_FQ, sv_evs, sv_ev, sv_evT, sv_nth, sv_adq, sv_gs] at h6
  have h7 := hf _ (List.mem_of_getElem? (i := 7) rfl)
  simp [sv_FQk, sv_FQ, sv_evs, sv_ev, sv_evT, sv_nth, sv_adq, sv_gs] at h7
  have h8 := hf _ (List.mem_of_getElem? (i := 8) rfl)
  simp [sv_FQk, sv_FQ, sv_evs, sv_ev, sv_evT, sv_nth, sv_adq, sv_gs] at h8
  clear hf
  obtain ⟨⟨⟨-, Ks⟩, ⟨-, Kb⟩, ⟨-, Km⟩, ⟨-, Kg⟩⟩, h0⟩ := h0
  rw [sv_Qvol_iff] at h0
  obtain ⟨⟨⟨-, Kb⟩, ⟨-, Km⟩, ⟨-, Kg⟩⟩, h1⟩ := h1
  rw [sv_Qvok_iff] at h1
  replace h2 := h2 bs (by omega) (by have := h3 bs; omega)
  replace h5 := h5 bb (by omega) (by have := h6 bb; omega)
  intro f hf
  have hf : f ∈ [(21, [], [(0, [(0, 1)]), (0, [(1, 1)]), (0, [(2, 1)]), (0, [(3, 1)]), (1, [(4, 1)])])] := hf
  simp only [List.mem_cons, List.not_mem_nil, or_false] at hf
  subst hf
  · simp [sv_FQk, sv_FQ, sv_evs, sv_ev, sv_evT, sv_nth, sv_adq, sv_gs, q_Ks_5, q_Q_5]
    refine ⟨⟨⟨bs, Ks⟩, ⟨bb, Kb⟩, ⟨bm, Km⟩, ⟨bg, Kg⟩⟩, ?_⟩
    rw [sv_Qvol_iff]
    intro v v1 v2
    by_cases e : v = xn
    · subst e
      rw [h2, h5]
      exact h1
    · exact h0 v v1 (by omega)
-- vok_0
def q_l33 : SvM := ([(0, none), (0, none), (0, none), (-1180591620717411303424, none), (-1180591620717411303424, none), (-1180591620717411303424, none), (-1180591620717411303424, none), (-1180591620717411303424, none)], [(1, [45], [(0, [(0, 1)])]), (1, [46], [(0, [(1, 1)])]), (1, [44], [(0, [(2, 1)])]), (4, [44, 1], [(0, [(2, 1)]), (0, [(3, 1)]), (0, [(6, 1)])]), (2, [], [(0, [(2, 1)]), (0, [(7, 1)])]), (0, [], [(0, [(3, 1)])]), (0, [], [(-1, [(3, -1), (7, 1)])]), (0, [], [(0, [(4, -1)])]), (0, [], [(128, [(5, -1), (6, -1)])])], [(22, [], [(0, [(0, 1)]), (0, [(1, 1)]), (0, [(2, 1)]), (0, [(3, 1)]), (0, [(4, 1)]), (0, [(5, 1)])])])
theorem q_l33_ok : ∀ (g : Int → Int → Int) (ln : Int → Int) (kf : Int → Nat) (ρ : List Int), sv_BOk ρ q_l33.1 → (∀ f ∈ q_l33.2.1, sv_FQk q_Ks q_Q g ln kf ρ f) → ∀ f ∈ q_l33.2.2, sv_FQk q_Ks q_Q g ln kf ρ f := by
  intro g ln kf ρ hb hf
  obtain ⟨hl, hb⟩ := hb
  obtain ⟨xb, r0, rfl, l0⟩ := sv_lens hl
  obtain ⟨xm, r1, rfl, l1⟩ := sv_lens l0
  obtain ⟨xg, r2, rfl, l2⟩ := sv_lens l1
  obtain ⟨xv, r3, rfl, l3⟩ := sv_lens l2
  obtain ⟨xk, r4, rfl, l4⟩ := sv_lens l3
  obtain ⟨xy, r5, rfl, l5⟩ := sv_lens l4
  obtain ⟨xz, r6, rfl, l6⟩ := sv_lens l5
  obtain ⟨xNG, r7, rfl, l7⟩ := sv_lens l6
  obtain rfl := sv_len0 l7
  clear l0 l1 l2 l3 l4 l5 l6 l7 hl
  have bb : 0 ≤ xb := (hb 0 _ _ rfl rfl).1
  have bm : 0 ≤ xm := (hb 1 _ _ rfl rfl).1
  have bg : 0 ≤ xg := (hb 2 _ _ rfl rfl).1
  clear hb
  have h0 := hf _ (List.mem_of_getElem? (i := 0) rfl)
  simp [sv_FQk, sv_FQ, sv_evs, sv_ev, sv_evT, sv_nth, sv_adq, sv_gs] at h0
  have h1 := hf _ (List.mem_of_getElem? (i := 1) rfl)
  simp [sv_FQk, sv_FQ, sv_evs, sv_ev, sv_evT, sv_nth, sv_adq, sv_gs] at h1
  have h2 := hf _ (List.mem_of_getElem? (i := 2) rfl)
  simp [sv_FQk, sv_FQ, sv_evs, sv_ev, sv_evT, sv_nth, sv_adq, sv_gs] at h2
  have h3 := hf _ (List.mem_of_getElem? (i := 3) rfl)
  simp [sv_FQk, sv_FQ, sv_evs, sv_ev, sv_evT, sv_nth, sv_adq, sv_gs] at h3
  have h4 := hf _ (List.mem_of_getElem? (i := 4) rfl)
  simp [sv_FQk, sv_FQ, sv_evs, sv_ev, sv_evT, sv_nth, sv_adq, sv_gs] at h4
  have h5 := hf _ (List.mem_of_getElem? (i := 5) rfl)
  simp [sv_FQk, sv_FQ, sv_evs, sv_ev, sv_evT, sv_nth, sv_adq, sv_gs] at h5
  have h6 := hf _ (List.mem_of_getElem? (i := 6) rfl)
  simp [sv_FQk, sv_FQ, sv_evs, sv_ev, sv_evT, sv_nth, sv_adq, sv_gs] at h6
  have h7 := hf _ (List.mem_of_getElem? (i := 7) rfl)
  simp [sv_FQk, sv_FQ, sv_evs, sv_ev, sv_evT, sv_nth, sv_adq, sv_gs] at h7
  have h8 := hf _ (List.mem_of_getElem? (i := 8) rfl)
  simp [sv_FQk, sv_FQ, sv_evs, sv_ev, sv_evT, sv_nth, sv_adq, sv_gs] at h8
  clear hf
  have Kb : kf xb = 45 := by omega
  have Km : kf xm = 46 := by omega
  have Kg : kf xg = 44 := by omega
  replace h3 := h3 bg (by omega) (by have := h4 bg; omega)
  intro f hf
  have hf : f ∈ [(22, [], [(0, [(0, 1)]), (0, [(1, 1)]), (0, [(2, 1)]), (0, [(3, 1)]), (0, [(4, 1)]), (0, [(5, 1)])])] := hf
  simp only [List.mem_cons, List.not_mem_nil, or_false] at hf
  subst hf
  · simp [sv_FQk, sv_FQ, sv_evs, sv_ev, sv_evT, sv_nth, sv_adq, sv_gs, q_Ks_6, q_Q_6]
    refine ⟨⟨⟨bb, Kb⟩, ⟨bm, Km⟩, ⟨bg, Kg⟩⟩, ?_⟩
    rw [sv_Qvok_iff]
    unfold sv_vr
    omega
-- vok_1
def q_l34 : SvM := ([(0, none), (0, none), (0, none), (-1180591620717411303424, none), (-1180591620717411303424, none), (-1180591620717411303424, none), (-1180591620717411303424, none), (-1180591620717411303424, none), (-1180591620717411303424, none), (-1180591620717411303424, none), (-1180591620717411303424, none), (-1180591620717411303424, none), (-1180591620717411303424, none), (-1180591620717411303424, none)], [(1, [45], [(0, [(0, 1)])]), (1, [44], [(0, [(2, 1)])]), (4, [46, 1], [(0, [(1, 1)]), (0, [(3, 3)]), (0, [(6, 1)])]), (4, [46, 1], [(0, [(1, 1)]), (1, [(3, 3)]), (0, [(7, 1)])]), (4, [46, 1], [(0, [(1, 1)]), (2, [(3, 3)]), (0, [(8, 1)])]), (2, [], [(0, [(1, 1)]), (0, [(9, 1)])]), (0, [], [(0, [(3, 1)])]), (0, [], [(-3, [(3, -3), (9, 1)])]), (2, [], [(0, [(0, 1)]), (0, [(10, 1)])]), (1, [46], [(0, [(1, 1)])]), (0, [], [(-1, [(3, 1), (6, -1)])]), (0, [], [(-1, [(3, 1), (7, -1)])]), (0, [], [(-1, [(3, 1), (8, -1)])]), (0, [], [(1, [(4, -1)])]), (0, [], [(-1, [(4, 1)])]), (4, [45, 1], [(0, [(0, 1)]), (0, [(6, 1)]), (0, [(11, 1)])]), (4, [45, 1], [(0, [(0, 1)]), (0, [(7, 1)]), (0, [(12, 1)])]), (4, [45, 1], [(0, [(0, 1)]), (0, [(8, 1)]), (0, [(13, 1)])]), (0, [], [(0, [(6, 1)])]), (0, [], [(0, [(7, 1)])]), (0, [], [(0, [(8, 1)])]), (0, [], [(-1, [(6, -1), (10, 1)])]), (0, [], [(-1, [(7, -1), (10, 1)])]), (0, [], [(-1, [(8, -1), (10, 1)])]), (0, [], [(0, [(5, -1), (11, 1), (12, 1), (13, 1)])])], [(22, [], [(0, [(0, 1)]), (0, [(1, 1)]), (0, [(2, 1)]), (0, [(3, 1)]), (0, [(4, 1)]), (0, [(5, 1)])])])
theorem q_l34_ok : ∀ (g : Int → Int → Int) (ln : Int → Int) (kf : Int → Nat) (ρ : List Int), sv_BOk ρ q_l34.1 → (∀ f ∈ q_l34.2.1, sv_FQk q_Ks q_Q g ln kf ρ f) → ∀ f ∈ q_l34.2.2, sv_FQk q_Ks q_Q g ln kf ρ f := by
  intro g ln kf ρ hb hf
  obtain ⟨hl, hb⟩ := hb
  obtain ⟨xb, r0, rfl, l0⟩ := sv_lens hl
  obtain ⟨xm, r1, rfl, l1⟩ := sv_lens l0
  obtain ⟨xg, r2, rfl, l2⟩ := sv_lens l1
  obtain ⟨xv, r3, rfl, l3⟩ := sv_lens l2
  obtain ⟨xk, r4, rfl, l4⟩ := sv_lens l3
  obtain ⟨xy, r5, rfl, l5⟩ := sv_lens l4
  obtain ⟨xc, r6, rfl, l6⟩ := sv_lens l5
  obtain ⟨xd, r7, rfl, l7⟩ := sv_lens l6
  obtain ⟨xe, r8, rfl, l8⟩ := sv_lens l7
  obtain ⟨xNM, r9, rfl, l9⟩ := sv_lens l8
  obtain ⟨xNB, r10, rfl, l10⟩ := sv_lens l9
  obtain ⟨xcb, r11, rfl, l11⟩ := sv_lens l10
  obtain ⟨xdb, r12, rfl, l12⟩ := sv_lens l11
  obtain ⟨xeb, r13, rfl, l13⟩ := sv_lens l12
  obtain rfl := sv_len0 l13
  clear l0 l1 l2 l3 l4 l5 l6 l7 l8 l9 l10 l11 l12 l13 hl
  have bb : 0 ≤ xb := (hb 0 _ _ rfl rfl).1
  have bm : 0 ≤ xm := (hb 1 _ _ rfl rfl).1
  have bg : 0 ≤ xg := (hb 2 _ _ rfl rfl).1
  clear hb
  have h0 := hf _ (List.mem_of_getElem? (i := 0) rfl)
  simp [sv_FQk, sv_FQ, sv_evs, sv_ev, sv_evT, sv_nth, sv_adq, sv_gs] at h0
  have h1 := hf _ (List.mem_of_getElem? (i := 1) rfl)
  simp [sv_FQk, sv_FQ, sv_evs, sv_ev, sv_evT, sv_nth, sv_adq, sv_gs] at h1
  have h2 := hf _ (List.mem_of_getElem? (i := 2) rfl)
  simp [sv_FQk, sv_FQ, sv_evs, sv_ev, sv_evT, sv_nth, sv_adq, sv_gs] at h2
  have h3 := hf _ (List.mem_of_getElem? (i := 3) rfl)
  simp [sv_FQk, sv_FQ, sv_evs, sv_ev, sv_evT, sv_nth, sv_adq, sv_gs] at h3
  have h4 := hf _ (List.mem_of_getElem? (i := 4) rfl)
  simp [sv_FQk, sv_FQ, sv_evs, sv_ev, sv_evT, sv_nth, sv_adq, sv_gs] at h4
  have h5 := hf _ (List.mem_of_getElem? (i := 5) rfl)
  simp [sv_FQk, sv_FQ, sv_evs, sv_ev, sv_evT, sv_nth, sv_adq, sv_gs] at h5
  have h6 := hf _ (List.mem_of_getElem? (i := 6) rfl)
  simp [sv_FQk, sv_FQ, sv_evs, sv_ev, sv_evT, sv_nth, sv_adq, sv_gs] at h6
  have h7 := hf _ (List.mem_of_getElem? (i := 7) rfl)
  simp [sv_FQk, sv_FQ, sv_evs, sv_ev, sv_evT, sv_nth, sv_adq, sv_gs] at h7
  have h8 := hf _ (List.mem_of_getElem? (i := 8) rfl)
  simp [sv_FQk, sv_FQ, sv_evs, sv_ev, sv_evT, sv_nth, sv_adq, sv_gs] at h8
  have h9 := hf _ (List.mem_of_getElem? (i := 9) rfl)
  simp [sv_FQk, sv_FQ, sv_evs, sv_ev, sv_evT, sv_nth, sv_adq, sv_gs] at h9
  have h10 := hf _ (List.mem_of_getElem? (i := 10) rfl)
  simp [sv_FQk, sv_FQ, sv_evs, sv_ev, sv_evT, sv_nth, sv_adq, sv_gs] at h10
  have h11 := hf _ (List.mem_of_getElem? (i := 11) rfl)
  simp [sv_FQk, sv_FQ, sv_evs, sv_ev, sv_evT, sv_nth, sv_adq, sv_gs] at h11
  have h12 := hf _ (List.mem_of_getElem? (i := 12) rfl)
  simp [sv_FQk, sv_FQ, sv_evs, sv_ev, sv_evT, sv_nth, sv_adq, sv_gs] at h12
  have h13 := hf _ (List.mem_of_getElem? (i := 13) rfl)
  simp [sv_FQk, sv_FQ, sv_evs, sv_ev, sv_evT, sv_nth, sv_adq, sv_gs] at h13
  have h14 := hf _ (List.mem_of_getElem? (i := 14) rfl)
  simp [sv_FQk, sv_FQ, sv_evs, sv_ev, sv_evT, sv_nth, sv_adq, sv_gs] at h14
  have h15 := hf _ (List.mem_of_getElem? (i := 15) rfl)
  simp [sv_FQk, sv_FQ, sv_evs, sv_ev, sv_evT, sv_nth, sv_adq, sv_gs] at h15
  have h16 := hf _ (List.mem_of_getElem? (i := 16) rfl)
  simp [sv_FQk, sv_FQ, sv_evs, sv_ev, sv_evT, sv_nth, sv_adq, sv_gs] at h16
  have h17 := hf _ (List.mem_of_getElem? (i := 17) rfl)
  simp [sv_FQk, sv_FQ, sv_evs, sv_ev, sv_evT, sv_nth, sv_adq, sv_gs] at h17
  have h18 := hf _ (List.mem_of_getElem? (i := 18) rfl)
  simp [sv_FQk, sv_FQ, sv_evs, sv_ev, sv_evT, sv_nth, sv_adq, sv_gs] at h18
  have h19 := hf _ (List.mem_of_getElem? (i := 19) rfl)
  simp [sv_FQk, sv_FQ, sv_evs, sv_ev, sv_evT, sv_nth, sv_adq, sv_gs] at h19
  have h20 := hf _ (List.mem_of_getElem? (i := 20) rfl)
  simp [sv_FQk, sv_FQ, sv_evs, sv_ev, sv_evT, sv_nth, sv_adq, sv_gs] at h20
  have h21 := hf _ (List.mem_of_getElem? (i := 21) rfl)
  simp [sv_FQk, sv_FQ, sv_evs, sv_ev, sv_evT, sv_nth, sv_adq, sv_gs] at h21
  have h22 := hf _ (List.mem_of_getElem? (i := 22) rfl)
  simp [sv_FQk, sv_FQ, sv_evs, sv_ev, sv_evT, sv_nth, sv_adq, sv_gs] at h22
  have h23 := hf _ (List.mem_of_getElem? (i := 23) rfl)
  simp [sv_FQk, sv_FQ, sv_evs, sv_ev, sv_evT, sv_nth, sv_adq, sv_gs] at h23
  have h24 := hf _ (List.mem_of_getElem? (i := 24) rfl)
  simp [sv_FQk, sv_FQ, sv_evs, sv_ev, sv_evT, sv_nth, sv_adq, sv_gs] at h24
  clear hf
  have Kb : kf xb = 45 := by omega
  have Kg : kf xg = 44 := by omega
  replace h2 := h2 bm (by omega) (by have := h5 bm; omega)
  replace h3 := h3 bm (by omega) (by have := h5 bm; omega)
  replace h4 := h4 bm (by omega) (by have := h5 bm; omega)
  have Km : kf xm = 46 := by omega
  replace h15 := h15 bb (by omega) (by have := h8 bb; omega)
  replace h16 := h16 bb (by omega) (by have := h8 bb; omega)
  replace h17 := h17 bb (by omega) (by have := h8 bb; omega)
  intro f hf
  have hf : f ∈ [(22, [], [(0, [(0, 1)]), (0, [(1, 1)]), (0, [(2, 1)]), (0, [(3, 1)]), (0, [(4, 1)]), (0, [(5, 1)])])] := hf
  simp only [List.mem_cons, List.not_mem_nil, or_false] at hf
  subst hf
  · simp [sv_FQk, sv_FQ, sv_evs, sv_ev, sv_evT, sv_nth, sv_adq, sv_gs, q_Ks_6, q_Q_6]
    refine ⟨⟨⟨bb, Kb⟩, ⟨bm, Km⟩, ⟨bg, Kg⟩⟩, ?_⟩
    rw [sv_Qvok_iff]
    unfold sv_vr
    rw [h2, h3, h4]
    omega
-- vok_1n
def q_l35 : SvM := ([(0, none), (0, none), (0, none), (-1180591620717411303424, none), (-1180591620717411303424, none), (-1180591620717411303424, none), (-1180591620717411303424, none), (-1180591620717411303424, none), (-1180591620717411303424, none), (-1180591620717411303424, none), (-1180591620717411303424, none), (-1180591620717411303424, none), (-1180591620717411303424, none)], [(1, [45], [(0, [(0, 1)])]), (1, [44], [(0, [(2, 1)])]), (4, [46, 1], [(0, [(1, 1)]), (0, [(3, 3)]), (0, [(6, 1)])]), (4, [46, 1], [(0, [(1, 1)]), (1, [(3, 3)]), (0, [(7, 1)])]), (4, [46, 1], [(0, [(1, 1)]), (2, [(3, 3)]), (0, [(8, 1)])]), (2, [], [(0, [(1, 1)]), (0, [(9, 1)])]), (0, [], [(0, [(3, 1)])]), (0, [], [(-3, [(3, -3), (9, 1)])]), (2, [], [(0, [(0, 1)]), (0, [(10, 1)])]), (1, [46], [(0, [(1, 1)])]), (0, [], [(-1, [(3, 1), (6, -1)])]), (0, [], [(-1, [(3, 1), (7, -1)])]), (0, [], [(-1, [(3, 1), (8, -1)])]), (0, [], [(1, [(4, -1)])]), (0, [], [(-1, [(4, 1)])]), (4, [45, 1], [(0, [(0, 1)]), (0, [(6, 1)]), (0, [(11, 1)])]), (4, [45, 1], [(0, [(0, 1)]), (0, [(7, 1)]), (0, [(12, 1)])]), (0, [], [(0, [(6, 1)])]), (0, [], [(0, [(7, 1)])]), (0, [], [(-1, [(8, -1)])]), (0, [], [(-1, [(6, -1), (10, 1)])]), (0, [], [(-1, [(7, -1), (10, 1)])]), (0, [], [(0, [(5, -1), (11, 1), (12, 1)])])], [(22, [], [(0, [(0, 1)]), (0, [(1, 1)]), (0, [(2, 1)]), (0, [(3, 1)]), (0, [(4, 1)]), (0, [(5, 1)])])])
theorem q_l35_ok : ∀ (g : Int → Int → Int) (ln : Int → Int) (kf : Int → Nat) (ρ : List Int), sv_BOk ρ q_l35.1 → (∀ f ∈ q_l35.2.1, sv_FQk q_Ks q_Q g ln kf ρ f) → ∀ f ∈ q_l35.2.2, sv_FQk q_Ks q_Q g ln kf ρ f := by
  intro g ln kf ρ hb hf
  obtain ⟨hl, hb⟩ := hb
  obtain ⟨xb, r0, rfl, l0⟩ := sv_lens hl
  obtain ⟨xm, r1, rfl, l1⟩ := sv_lens l0
  obtain ⟨xg, r2, rfl, l2⟩ := sv_lens l1
  obtain ⟨xv, r3, rfl, l3⟩ := sv_lens l2
  obtain ⟨xk, r4, rfl, l4⟩ := sv_lens l3
  obtain ⟨xy, r5, rfl, l5⟩ := sv_lens l4
  obtain ⟨xc, r6, rfl, l6⟩ := sv_lens l5
  obtain ⟨xd, r7, rfl, l7⟩ := sv_lens l6
  obtain ⟨xe, r8, rfl, l8⟩ := sv_lens l7
  obtain ⟨xNM, r9, rfl, l9⟩ := sv_lens l8
  obtain ⟨xNB, r10, rfl, l10⟩ := sv_lens l9
  obtain ⟨xcb, r11, rfl, l11⟩ := sv_lens l10
  obtain ⟨xdb, r12, rfl, l12⟩ := sv_lens l11
  obtain rfl := sv_len0 l12
  clear l0 l1 l2 l3 l4 l5 l6 l7 l8 l9 l10 l11 l12 hl
  have bb : 0 ≤ xb := (hb 0 _ _ rfl rfl).1
  have bm : 0 ≤ xm := (hb 1 _ _ rfl rfl).1
  have bg : 0 ≤ xg := (hb 2 _ _ rfl rfl).1
  clear hb
  have h0 := hf _ (List.mem_of_getElem? (i := 0) rfl)
  simp [sv_FQk, sv_FQ, sv_evs, sv_ev, sv_evT, sv_nth, sv_adq, sv_gs] at h0
  have h1 := hf _ (List.mem_of_getElem? (i := 1) rfl)
  simp [sv_FQk, sv_FQ, sv_evs, sv_ev, sv_evT, sv_nth, sv_adq, sv_gs] at h1
  have h2 := hf _ (List.mem_of_getElem? (i := 2) rfl)
  simp [sv_FQk, sv_FQ, sv_evs, sv_ev, sv_evT, sv_nth, sv_adq, sv_gs] at h2
  have h3 := hf _ (List.mem_of_getElem? (i := 3) rfl)
  simp [sv_FQk, sv_FQ, sv_evs, sv_ev, sv_evT, sv_nth, sv_adq, sv_gs] at h3
  have h4 := hf _ (List.mem_of_getElem? (i := 4) rfl)
  simp [sv_FQk, sv_FQ, sv_evs, sv_ev, sv_evT, sv_nth, sv_adq, sv_gs] at h4
  have h5 := hf _ (List.mem_of_getElem? (i := 5) rfl)
  simp [sv_FQk, sv_FQ, sv_evs, sv_ev, sv_evT, sv_nth, sv_adq, sv_gs] at h5
  have h6 := hf _ (List.mem_of_getElem? (i := 6) rfl)
  simp [sv_FQk, sv_FQ, sv_evs, sv_ev, sv_evT, sv_nth, sv_adq, sv_gs] at h6
  have h7 := hf _ (List.mem_of_getElem? (i := 7) rfl)
  simp [sv_FQk, sv_FQ, sv_evs, sv_ev, sv_evT, sv_nth, sv_adq, sv_gs] at h7
  have h8 := hf _ (List.mem_of_getElem? (i := 8) rfl)
  simp [sv_FQk, sv_FQ, sv_evs, sv_ev, sv_evT, sv_nth, sv_adq, sv_gs] at h8
  have h9 := hf _ (List.mem_of_getElem? (i := 9) rfl)
  simp [sv_FQk, sv_FQ, sv_evs, sv_ev, sv_evT, sv_nth, sv_adq, sv_gs] at h9
  have h10 := hf _ (List.mem_of_getElem? (i := 10) rfl)
  simp [sv_FQk, sv_FQ, sv_evs, sv_ev, sv_evT, sv_nth, sv_adq, sv_gs] at h10
  have h11 := hf _ (List.mem_of_getElem? (i := 11) rfl)
  simp [sv_FQk, sv_FQ, sv_evs, sv_ev, sv_evT, sv_nth, sv_adq, sv_gs] at h11
  have h12 := hf _ (List.mem_of_getElem? (i := 12) rfl)
  simp [sv_FQk, sv_FQ, sv_evs, sv_ev, sv_evT, sv_nth, sv_adq, sv_gs] at h12
  have h13 := hf _ (List.mem_of_getElem? (i := 13) rfl)
  simp [sv_FQk, sv_FQ, sv_evs, sv_ev, sv_evT, sv_nth, sv_adq, sv_gs] at h13
  have h14 := hf _ (List.mem_of_getElem? (i := 14) rfl)
  simp [sv_FQk, sv_FQ, sv_evs, sv_ev, sv_evT, sv_nth, sv_adq, sv_gs] at h14
  have h15 := hf _ (List.mem_of_getElem? (i := 15) rfl)
  simp [sv_FQk, sv_FQ, sv_evs, sv_ev, sv_evT, sv_nth, sv_adq, sv_gs] at h15
  have h16 := hf _ (List.mem_of_getElem? (i := 16) rfl)
  simp [sv_FQk, sv_FQ, sv_evs, sv_ev, sv_evT, sv_nth, sv_adq, sv_gs] at h16
  have h17 := hf _ (List.mem_of_getElem? (i := 17) rfl)
  simp [sv_FQk, sv_FQ, sv_evs, sv_ev, sv_evT, sv_nth, sv_adq, sv_gs] at h17
  have h18 := hf _ (List.mem_of_getElem? (i := 18) rfl)
  simp [sv_FQk, sv_FQ, sv_evs, sv_ev, sv_evT, sv_nth, sv_adq, sv_gs] at h18
  have h19 := hf _ (List.mem_of_getElem? (i := 19) rfl)
  simp [sv_FQk, sv_FQ, sv_evs, sv_ev, sv_evT, sv_nth, sv_adq, sv_gs] at h19
  have h20 := hf _ (List.mem_of_getElem? (i := 20) rfl)
  simp [sv_FQk, sv_FQ, sv_evs, sv_ev, sv_evT, sv_nth, sv_adq, sv_gs] at h20
  have h21 := hf _ (List.mem_of_getElem? (i := 21) rfl)
  simp [sv_FQk, sv_FQ, sv_evs, sv_ev, sv_evT, sv_nth, sv_adq, sv_gs] at h21
  have h22 := hf _ (List.mem_of_getElem? (i := 22) rfl)
  simp [sv_FQk, sv_FQ, sv_evs, sv_ev, sv_evT, sv_nth, sv_adq, sv_gs] at h22
  clear hf
  have Kb : kf xb = 45 := by omega
  have Kg : kf xg = 44 := by omega
  replace h2 := h2 bm (by omega) (by have := h5 bm; omega)
  replace h3 := h3 bm (by omega) (by have := h5 bm; omega)
  replace h4 := h4 bm (by omega) (by have := h5 bm; omega)
  have Km : kf xm = 46 := by omega
  replace h15 := h15 bb (by omega) (by have := h8 bb; omega)
  replace h16 := h16 bb (by omega) (by have := h8 bb; omega)
  intro f hf
  have hf : f ∈ [(22, [], [(0, [(0, 1)]), (0, [(1, 1)]), (0, [(2, 1)]), (0, [(3, 1)]), (0, [(4, 1)]), (0, [(5, 1)])])] := hf
  simp only [List.mem_cons, List.not_mem_nil, or_false] at hf
  subst hf
  · simp [sv_FQk, sv_FQ, sv_evs, sv_ev, sv_evT, sv_nth, sv_adq, sv_gs, q_Ks_6, q_Q_6]
    refine ⟨⟨⟨bb, Kb⟩, ⟨bm, Km⟩, ⟨bg, Kg⟩⟩, ?_⟩
    rw [sv_Qvok_iff]
    unfold sv_vr
    rw [h2, h3, h4]
    omega
-- vok_2
def q_l36 : SvM := ([(0, none), (0, none), (0, none), (-1180591620717411303424, none), (-1180591620717411303424, none), (-1180591620717411303424, none), (-1180591620717411303424, none), (-1180591620717411303424, none), (-1180591620717411303424, none), (-1180591620717411303424, none), (-1180591620717411303424, none), (-1180591620717411303424, none), (-1180591620717411303424, none), (-1180591620717411303424, none)], [(1, [45], [(0, [(0, 1)])]), (1, [44], [(0, [(2, 1)])]), (4, [46, 1], [(0, [(1, 1)]), (0, [(3, 3)]), (0, [(6, 1)])]), (4, [46, 1], [(0, [(1, 1)]), (1, [(3, 3)]), (0, [(7, 1)])]), (4, [46, 1], [(0, [(1, 1)]), (2, [(3, 3)]), (0, [(8, 1)])]), (2, [], [(0, [(1, 1)]), (0, [(9, 1)])]), (0, [], [(0, [(3, 1)])]), (0, [], [(-3, [(3, -3), (9, 1)])]), (2, [], [(0, [(0, 1)]), (0, [(10, 1)])]), (1, [46], [(0, [(1, 1)])]), (0, [], [(-1, [(3, 1), (6, -1)])]), (0, [], [(-1, [(3, 1), (7, -1)])]), (0, [], [(-1, [(3, 1), (8, -1)])]), (0, [], [(2, [(4, -1)])]), (0, [], [(-2, [(4, 1)])]), (4, [45, 1], [(0, [(0, 1)]), (0, [(6, 1)]), (0, [(11, 1)])]), (4, [45, 1], [(0, [(0, 1)]), (0, [(7, 1)]), (0, [(12, 1)])]), (4, [45, 1], [(0, [(0, 1)]), (0, [(8, 1)]), (0, [(13, 1)])]), (0, [], [(0, [(6, 1)])]), (0, [], [(0, [(7, 1)])]), (0, [], [(0, [(8, 1)])]), (0, [], [(-1, [(6, -1), (10, 1)])]), (0, [], [(-1, [(7, -1), (10, 1)])]), (0, [], [(-1, [(8, -1), (10, 1)])]), (0, [], [(0, [(5, -1), (11, 3)])]), (0, [], [(0, [(5, -1), (12, 3)])]), (0, [], [(0, [(5, -1), (13, 3)])])], [(22, [], [(0, [(0, 1)]), (0, [(1, 1)]), (0, [(2, 1)]), (0, [(3, 1)]), (0, [(4, 1)]), (0, [(5, 1)])])])
theorem q_l36_ok : ∀ (g : Int → Int → Int) (ln : Int → Int) (kf : Int → Nat) (ρ : List Int), sv_BOk ρ q_l36.1 → (∀ f ∈ q_l36.2.1, sv_FQk q_Ks q_Q g ln kf ρ f) → ∀ f ∈ q_l36.2.2, sv_FQk q_Ks q_Q g ln kf ρ f := by
  intro g ln kf ρ hb hf
  obtain ⟨hl, hb⟩ := hb
  obtain ⟨xb, r0, rfl, l0⟩ := sv_lens hl
  obtain ⟨xm, r1, rfl, l1⟩ := sv_lens l0
  obtain ⟨xg, r2, rfl, l2⟩ := sv_lens l1
  obtain ⟨xv, r3, rfl, l3⟩ := sv_lens l2
  obtain ⟨xk, r4, rfl, l4⟩ := sv_lens l3
  obtain ⟨xy, r5, rfl, l5⟩ := sv_lens l4
  obtain ⟨xc, r6, rfl, l6⟩ := sv_lens l5
  obtain ⟨xd, r7, rfl, l7⟩ := sv_lens l6
  obtain ⟨xe, r8, rfl, l8⟩ := sv_lens l7
  obtain ⟨xNM, r9, rfl, l9⟩ := sv_lens l8
  obtain ⟨xNB, r10, rfl, l10⟩ := sv_lens l9
  obtain ⟨xcb, r11, rfl, l11⟩ := sv_lens l10
  obtain ⟨xdb, r12, rfl, l12⟩ := sv_lens l11
  obtain ⟨xeb, r13, rfl, l13⟩ := sv_lens l12
  obtain rfl := sv_len0 l13
  clear l0 l1 l2 l3 l4 l5 l6 l7 l8 l9 l10 l11 l12 l13 hl
  have bb : 0 ≤ xb := (hb 0 _ _ rfl rfl).1
  have bm : 0 ≤ xm := (hb 1 _ _ rfl rfl).1
  have bg : 0 ≤ xg := (hb 2 _ _ rfl rfl).1
  clear hb
  have h0 := hf _ (List.mem_of_getElem? (i := 0) rfl)
  simp [sv_FQk, sv_FQ, sv_evs, sv_ev, sv_evT, sv_nth, sv_adq, sv_gs] at h0
  have h1 := hf _ (List.mem_of_getElem? (i := 1) rfl)
  simp [sv_FQk, sv_FQ, sv_evs, sv_ev, sv_evT, sv_nth, sv_adq, sv_gs] at h1
  have h2 := hf _ (List.mem_of_getElem? (i := 2) rfl)
  simp [sv_FQk, sv_FQ, sv_evs, sv_ev, sv_evT, sv_nth, sv_adq, sv_gs] at h2
  have h3 := hf _ (List.mem_of_getElem? (i := 3) rfl)
  simp [sv_FQk, sv_FQ, sv_evs, sv_ev, sv_evT, sv_nth, sv_adq, sv_gs] at h3
  have h4 := hf _ (List.mem_of_getElem? (i := 4) rfl)
  simp [sv_FQk, sv_FQ, sv_evs, sv_ev, sv_evT, sv_nth, sv_adq, sv_gs] at h4
  have h5 := hf _ (List.mem_of_getElem? (i := 5) rfl)
  simp [sv_FQk, sv_FQ, sv_evs, sv_ev, sv_evT, sv_nth, sv_adq, sv_gs] at h5
  have h6 := hf _ (List.mem_of_getElem? (i := 6) rfl)
  simp [sv_FQk, sv_FQ, sv_evs, sv_ev, sv_evT, sv_nth, sv_adq, sv_gs] at h6
  have h7 := hf _ (List.mem_of_getElem? (i := 7) rfl)
  simp [sv_FQk, sv_FQ, sv_evs, sv_ev, sv_evT, sv_nth, sv_adq, sv_gs] at h7
  have h8 := hf _ (List.mem_of_getElem? (i := 8) rfl)
  simp [sv_FQk, sv_FQ, sv_evs, sv_ev, sv_evT, sv_nth, sv_adq, sv_gs] at h8
  have h9 := hf _ (List.mem_of_getElem? (i := 9) rfl)
  simp [sv_FQk, sv_FQ, sv_evs, sv_ev, sv_evT, sv_nth, sv_adq, sv_gs] at h9
  have h10 := hf _ (List.mem_of_getElem? (i := 10) rfl)
  simp [sv_FQk, sv_FQ, sv_evs, sv_ev, sv_evT, sv_nth, sv_adq, sv_gs] at h10
  have h11 := hf _ (List.mem_of_getElem? (i := 11) rfl)
  simp [sv_FQk, sv_FQ, sv_evs, sv_ev, sv_evT, sv_nth, sv_adq, sv_gs] at h11
  have h12 := hf _ (List.mem_of_getElem? (i := 12) rfl)
  simp [sv_FQk, sv_FQ, sv_evs, sv_ev, sv_evT, sv_nth, sv_adq, sv_gs] at h12
  have h13 := hf _ (List.mem_of_getElem? (i := 13) rfl)
  simp [sv_FQk, sv_FQ, sv_evs, sv_ev, sv_evT, sv_nth, sv_adq, sv_gs] at h13
  have h14 := hf _ (List.mem_of_getElem? (i := 14) rfl)
  simp [sv_FQk, sv_FQ, sv_evs, sv_ev, sv_evT, sv_nth, sv_adq, sv_gs] at h14
  have h15 := hf _ (List.mem_of_getElem? (i := 15) rfl)
  simp [sv_FQk, sv_FQ, sv_evs, sv_ev, sv_evT, sv_nth, sv_adq, sv_gs] at h15
  have h16 := hf _ (List.mem_of_getElem? (i := 16) rfl)
  simp [sv_FQk, sv_FQ, sv_evs, sv_ev, sv_evT, sv_nth, sv_adq, sv_gs] at h16
  have h17 := hf _ (List.mem_of_getElem? (i := 17) rfl)
  simp [sv_FQk, sv_FQ, sv_evs, sv_ev, sv_evT, sv_nth, sv_adq, sv_gs] at h17
  have h18 := hf _ (List.mem_of_getElem? (i := 18) rfl)
  simp [sv_FQk, sv_FQ, sv_evs, sv_ev, sv_evT, sv_nth, sv_adq, sv_gs] at h18
  have h19 := hf _ (List.mem_of_getElem? (i := 19) rfl)
  simp [sv_FQk, sv_FQ, sv_evs, sv_ev, sv_evT, sv_nth, sv_adq, sv_gs] at h19
  have h20 := hf _ (List.mem_of_getElem? (i := 20) rfl)
  simp [sv_FQk, sv_FQ, sv_evs, sv_ev, sv_evT, sv_nth, sv_adq, sv_gs] at h20
  have h21 := hf _ (List.mem_of_getElem? (i := 21) rfl)
  simp [sv_FQk, sv_FQ, sv_evs, sv_ev, sv_evT, sv_nth, sv_adq, sv_gs] at h21
  have h22 := hf _ (List.mem_of_getElem? (i := 22) rfl)
  simp [sv_FQk, sv_FQ, sv_evs, sv_ev, sv_evT, sv_nth, sv_adq, sv_gs] at h22
  have h23 := hf _ (List.mem_of_getElem? (i := 23) rfl)
  simp [sv_FQk, sv_FQ, sv_evs, sv_ev, sv_evT, sv_nth, sv_adq, sv_gs] at h23
  have h24 := hf _ (List.mem_of_getElem? (i := 24) rfl)
  simp [sv_FQk, sv_FQ, sv_evs, sv_ev, sv_evT, sv_nth, sv_adq, sv_gs] at h24
  have h25 := hf _ (List.mem_of_getElem? (i := 25) rfl)
  simp [sv_FQk, sv_FQ, sv_evs, sv_ev, sv_evT, sv_nth, sv_adq, sv_gs] at h25
  have h26 := hf _ (List.mem_of_getElem? (i := 26) rfl)
  simp [sv_FQk, sv_FQ, sv_evs, sv_ev, sv_evT, sv_nth, sv_adq, sv_gs] at h26
  clear hf
  have Kb : kf xb = 45 := by omega
  have Kg : kf xg = 44 := by omega
  replace h2 := h2 bm (by omega) (by have := h5 bm; omega)
  replace h3 := h3 bm (by omega) (by have := h5 bm; omega)
  replace h4 := h4 bm (by omega) (by have := h5 bm; omega)
  have Km : kf xm = 46 := by omega
  replace h15 := h15 bb (by omega) (by have := h8 bb; omega)
  replace h16 := h16 bb (by omega) (by have := h8 bb; omega)
  replace h17 := h17 bb (by omega) (by have := h8 bb; omega)
  intro f hf
  have hf : f ∈ [(22, [], [(0, [(0, 1)]), (0, [(1, 1)]), (0, [(2, 1)]), (0, [(3, 1)]), (0, [(4, 1)]), (0, [(5, 1)])])] := hf
  simp only [List.mem_cons, List.not_mem_nil, or_false] at hf
  subst hf
  · simp [sv_FQk, sv_FQ, sv_evs, sv_ev, sv_evT, sv_nth, sv_adq, sv_gs, q_Ks_6, q_Q_6]
    refine ⟨⟨⟨bb, Kb⟩, ⟨bm, Km⟩, ⟨bg, Kg⟩⟩, ?_⟩
    rw [sv_Qvok_iff]
    unfold sv_vr
    rw [h2, h3, h4]
    omega
-- vok_2n
def q_l37 : SvM := ([(0, none), (0, none), (0, none), (-1180591620717411303424, none), (-1180591620717411303424, none), (-1180591620717411303424, none), (-1180591620717411303424, none), (-1180591620717411303424, none), (-1180591620717411303424, none), (-1180591620717411303424, none), (-1180591620717411303424, none), (-1180591620717411303424, none), (-1180591620717411303424, none)], [(1, [45], [(0, [(0, 1)])]), (1, [44], [(0, [(2, 1)])]), (4, [46, 1], [(0, [(1, 1)]), (0, [(3, 3)]), (0, [(6, 1)])]), (4, [46, 1], [(0, [(1, 1)]), (1, [(3, 3)]), (0, [(7, 1)])]), (4, [46, 1], [(0, [(1, 1)]), (2, [(3, 3)]), (0, [(8, 1)])]), (2, [], [(0, [(1, 1)]), (0, [(9, 1)])]), (0, [], [(0, [(3, 1)])]), (0, [], [(-3, [(3, -3), (9, 1)])]), (2, [], [(0, [(0, 1)]), (0, [(10, 1)])]), (1, [46], [(0, [(1, 1)])]), (0, [], [(-1, [(3, 1), (6, -1)])]), (0, [], [(-1, [(3, 1), (7, -1)])]), (0, [], [(-1, [(3, 1), (8, -1)])]), (0, [], [(2, [(4, -1)])]), (0, [], [(-2, [(4, 1)])]), (4, [45, 1], [(0, [(0, 1)]), (0, [(6, 1)]), (0, [(11, 1)])]), (4, [45, 1], [(0, [(0, 1)]), (0, [(7, 1)]), (0, [(12, 1)])]), (0, [], [(0, [(6, 1)])]), (0, [], [(0, [(7, 1)])]), (0, [], [(-1, [(8, -1)])]), (0, [], [(-1, [(6, -1), (10, 1)])]), (0, [], [(-1, [(7, -1), (10, 1)])]), (0, [], [(0, [(5, -1), (11, 2)])]), (0, [], [(0, [(5, -1), (12, 2)])]), (0, [], [(0, [(5, -1), (11, 3)])]), (0, [], [(0, [(5, -1), (12, 3)])])], [(22, [], [(0, [(0, 1)]), (0, [(1, 1)]), (0, [(2, 1)]), (0, [(3, 1)]), (0, [(4, 1)]), (0, [(5, 1)])])])
theorem q_l37_ok : ∀ (g : Int → Int → Int) (ln : Int → Int) (kf : Int → Nat) (ρ : List Int), sv_BOk ρ q_l37.1 → (∀ f ∈ q_l37.2.1, sv_FQk q_Ks q_Q g ln kf ρ f) → ∀ f ∈ q_l37.2.2, sv_FQk q_Ks q_Q g ln kf ρ f := by
  intro g ln kf ρ hb hf
  obtain ⟨hl, hb⟩ := hb
  obtain ⟨xb, r0, rfl, l0⟩ := sv_lens hl
  obtain ⟨xm, r1, rfl, l1⟩ := sv_lens l0
  obtain ⟨xg, r2, rfl, l2⟩ := sv_lens l1
  obtain ⟨xv, r3, rfl, l3⟩ := sv_lens l2
  obtain ⟨xk, r4, rfl, l4⟩ := sv_lens l3
  obtain ⟨xy, r5, rfl, l5⟩ := sv_lens l4
  obtain ⟨xc, r6, rfl, l6⟩ := sv_lens l5
  obtain ⟨xd, r7, rfl, l7⟩ := sv_lens l6
  obtain ⟨xe, r8, rfl, l8⟩ := sv_lens l7
  obtain ⟨xNM, r9, rfl, l9⟩ := sv_lens l8
  obtain ⟨xNB, r10, rfl, l10⟩ := sv_lens l9
  obtain ⟨xcb, r11, rfl, l11⟩ := sv_lens l10
  obtain ⟨xdb, r12, rfl, l12⟩ := sv_lens l11
  obtain rfl := sv_len0 l12
  clear l0 l1 l2 l3 l4 l5 l6 l7 l8 l9 l10 l11 l12 hl
  have bb : 0 ≤ xb := (hb 0 _ _ rfl rfl).1
  have bm : 0 ≤ xm := (hb 1 _ _ rfl rfl).1
  have bg : 0 ≤ xg := (hb 2 _ _ rfl rfl).1
  clear hb
  have h0 := hf _ (List.mem_of_getElem? (i := 0) rfl)
  simp [sv_FQk, sv_FQ, sv_evs, sv_ev, sv_evT, sv_nth, sv_adq, sv_gs] at h0
  have h1 := hf _ (List.mem_of_getElem? (i := 1) rfl)
  simp [sv_FQk, sv_FQ, sv_evs, sv_ev, sv_evT, sv_nth, sv_adq, sv_gs] at h1
  have h2 := hf _ (List.mem_of_getElem? (i := 2) rfl)
  simp [sv_FQk, sv_FQ, sv_evs, sv_ev, sv_evT, sv_nth, sv_adq, sv_gs] at h2
  have h3 := hf _ (List.mem_of_getElem? (i := 3) rfl)
  simp [sv_FQk, sv_FQ, sv_evs, sv_ev, sv_evT, sv_nth, sv_adq, sv_gs] at h3
  have h4 := hf _ (List.mem_of_getElem? (i := 4) rfl)
  simp [sv_FQk, sv_FQ, sv_evs, sv_ev, sv_evT, sv_nth, sv_adq, sv_gs] at h4
  have h5 := hf _ (List.mem_of_getElem? (i := 5) rfl)
  simp [sv_FQk, sv_FQ, sv_evs, sv_ev, sv_evT, sv_nth, sv_adq, sv_gs] at h5
  have h6 := hf _ (List.mem_of_getElem? (i := 6) rfl)
  simp [sv_FQk, sv_FQ, sv_evs, sv_ev, sv_evT, sv_nth, sv_adq, sv_gs] at h6
  have h7 := hf _ (List.mem_of_getElem? (i := 7) rfl)
  simp [sv_FQk, sv_FQ, sv_evs, sv_ev, sv_evT, sv_nth, sv_adq, sv_gs] at h7
  have h8 := hf _ (List.mem_of_getElem? (i := 8) rfl)
  simp [sv_FQk, sv_FQ, sv_evs, sv_ev, sv_evT, sv_nth, sv_adq, sv_gs] at h8
  have h9 := hf _ (List.mem_of_getElem? (i := 9) rfl)
  simp [sv_FQk, sv_FQ, sv_evs, sv_ev, sv_evT, sv_nth, sv_adq, sv_gs] at h9
  have h10 := hf _ (List.mem_of_getElem? (i := 10) rfl)
  simp [sv_FQk, sv_FQ, sv_evs, sv_ev, sv_evT, sv_nth, sv_adq, sv_gs] at h10
  have h11 := hf _ (List.mem_of_getElem? (i := 11) rfl)
  simp [sv_FQk, sv_FQ, sv_evs, sv_ev, sv_evT, sv_nth, sv_adq, sv_gs] at h11
  have h12 := hf _ (List.mem_of_getElem? (i := 12) rfl)
  simp [sv_FQk, sv_FQ, sv_evs, sv_ev, sv_evT, sv_nth, sv_adq, sv_gs] at h12
  have h13 := hf _ (List.mem_of_getElem? (i := 13) rfl)
  simp [sv_FQk, sv_FQ, sv_evs, sv_ev, sv_evT, sv_nth, sv_adq, sv_gs] at h13
  have h14 := hf _ (List.mem_of_getElem? (i := 14) rfl)
  simp [sv_FQk, sv_FQ, sv_evs, sv_ev, sv_evT, sv_nth, sv_adq, sv_gs] at h14
  have h15 := hf _ (List.mem_of_getElem? (i := 15) rfl)
  simp [sv_FQk, sv_FQ, sv_evs, sv_ev, sv_evT, sv_nth, sv_adq, sv_gs] at h15
  have h16 := hf _ (List.mem_of_getElem? (i := 16) rfl)
  simp [sv_FQk, sv_FQ, sv_evs, sv_ev, sv_evT, sv_nth, sv_adq, sv_gs] at h16
  have h17 := hf _ (List.mem_of_getElem? (i := 17) rfl)
  simp [sv_FQk, sv_FQ, sv_evs, sv_ev, sv_evT, sv_nth, sv_adq, sv_gs] at h17
  have h18 := hf _ (List.mem_of_getElem? (i := 18) rfl)
  simp [sv_FQk, sv_FQ, sv_evs, sv_ev, sv_evT, sv_nth, sv_adq, sv_gs] at h18
  have h19 := hf _ (List.mem_of_getElem? (i := 19) rfl)
  simp [sv_FQk, sv_FQ, sv_evs, sv_ev, sv_evT, sv_nth, sv_adq, sv_gs] at h19
  have h20 := hf _ (List.mem_of_getElem? (i := 20) rfl)
  simp [sv_FQk, sv_FQ, sv_evs, sv_ev, sv_evT, sv_nth, sv_adq, sv_gs] at h20
  have h21 := hf _ (List.mem_of_getElem? (i := 21) rfl)
  simp [sv_FQk, sv_FQ, sv_evs, sv_ev, sv_evT, sv_nth, sv_adq, sv_gs] at h21
  have h22 := hf _ (List.mem_of_getElem? (i := 22) rfl)
  simp [sv_FQk, sv_FQ, sv_evs, sv_ev, sv_evT, sv_nth, sv_adq, sv_gs] at h22
  have h23 := hf _ (List.mem_of_getElem? (i := 23) rfl)
  simp [sv_FQk, sv_FQ, sv_evs, sv_ev, sv_evT, sv_nth, sv_adq, sv_gs] at h23
  have h24 := hf _ (List.mem_of_getElem? (i := 24) rfl)
  simp [sv_FQk, sv_FQ, sv_evs, sv_ev, sv_evT, sv_nth, sv_adq, sv_gs] at h24
  have h25 := hf _ (List.mem_of_getElem? (i := 25) rfl)
  simp [sv_FQk, sv_FQ, sv_evs, sv_ev, sv_evT, sv_nth, sv_adq, sv_gs] at h25
  clear hf
  have Kb : kf xb = 45 := by omega
  have Kg : kf xg = 44 := by omega
  replace h2 := h2 bm (by omega) (by have := h5 bm; omega)
  replace h3 := h3 bm (by omega) (by have := h5 bm; omega)
  replace h4 := h4 bm (by omega) (by have := h5 bm; omega)
  have Km : kf xm = 46 := by omega
  replace h15 := h15 bb (by omega) (by have := h8 bb; omega)
  replace h16 := h16 bb (by omega) (by have := h8 bb; omega)
  intro f hf
  have hf : f ∈ [(22, [], [(0, [(0, 1)]), (0, [(1, 1)]), (0, [(2, 1)]), (0, [(3, 1)]), (0, [(4, 1)]), (0, [(5, 1)])])] := hf
  simp only [List.mem_cons, List.not_mem_nil, or_false] at hf
  subst hf
  · simp [sv_FQk, sv_FQ, sv_evs, sv_ev, sv_evT, sv_nth, sv_adq, sv_gs, q_Ks_6, q_Q_6]
    refine ⟨⟨⟨bb, Kb⟩, ⟨bm, Km⟩, ⟨bg, Kg⟩⟩, ?_⟩
    rw [sv_Qvok_iff]
    unfold sv_vr
    rw [h2, h3, h4]
    omega
-- vok_3_01
def q_l38 : SvM := ([(0, none), (0, none), (0, none), (-1180591620717411303424, none), (-1180591620717411303424, none), (-1180591620717411303424, none), (-1180591620717411303424, none), (-1180591620717411303424, none), (-1180591620717411303424, none), (-1180591620717411303424, none), (-1180591620717411303424, none), (-1180591620717411303424, none)], [(1, [45], [(0, [(0, 1)])]), (1, [44], [(0, [(2, 1)])]), (4, [46, 1], [(0, [(1, 1)]), (0, [(3, 3)]), (0, [(6, 1)])]), (4, [46, 1], [(0, [(1, 1)]), (1, [(3, 3)]), (0, [(7, 1)])]), (4, [46, 1], [(0, [(1, 1)]), (2, [(3, 3)]), (0, [(8, 1)])]), (2, [], [(0, [(1, 1)]), (0, [(9, 1)])]), (0, [], [(0, [(3, 1)])]), (0, [], [(-3, [(3, -3), (9, 1)])]), (2, [], [(0, [(0, 1)]), (0, [(10, 1)])]), (1, [46], [(0, [(1, 1)])]), (0, [], [(-1, [(3, 1), (6, -1)])]), (0, [], [(-1, [(3, 1), (7, -1)])]), (0, [], [(-1, [(3, 1), (8, -1)])]), (0, [], [(3, [(4, -1)])]), (0, [], [(-3, [(4, 1)])]), (0, [], [(-1, [(6, -1)])]), (4, [45, 1], [(0, [(0, 1)]), (0, [(7, 1)]), (0, [(11, 1)])]), (0, [], [(0, [(7, 1)])]), (0, [], [(-1, [(7, -1), (10, 1)])]), (0, [], [(0, [(5, -1), (11, 1)])])], [(22, [], [(0, [(0, 1)]), (0, [(1, 1)]), (0, [(2, 1)]), (0, [(3, 1)]), (0, [(4, 1)]), (0, [(5, 1)])])])
theorem q_l38_ok : ∀ (g : Int → Int → Int) (ln : Int → Int) (kf : Int → Nat) (ρ : List Int), sv_BOk ρ q_l38.1 → (∀ f ∈ q_l38.2.1, sv_FQk q_Ks q_Q g ln kf ρ f) → ∀ f ∈ q_l38.2.2, sv_FQk q_Ks q_Q g ln kf ρ f := by
  intro g ln kf ρ hb hf
  obtain ⟨hl, hb⟩ := hb
  obtain ⟨xb, r0, rfl, l0⟩ := sv_lens hl
  obtain ⟨xm, r1, rfl, l1⟩ := sv_lens l0
  obtain ⟨xg, r2, rfl, l2⟩ := sv_lens l1
  obtain ⟨xv, r3, rfl, l3⟩ := sv_lens l2
  obtain ⟨xk, r4, rfl, l4⟩ := sv_lens l3
  obtain ⟨xy, r5, rfl, l5⟩ := sv_lens l4
  obtain ⟨xc, r6, rfl, l6⟩ := sv_lens l5
  obtain ⟨xd, r7, rfl, l7⟩ := sv_lens l6
  obtain ⟨xe, r8, rfl, l8⟩ := sv_lens l7
  obtain ⟨xNM, r9, rfl, l9⟩ := sv_lens l8
  obtain ⟨xNB, r10, rfl, l10⟩ := sv_lens l9
  obtain ⟨xdb, r11, rfl, l11⟩ := sv_lens l10
  obtain rfl := sv_len0 l11
  clear l0 l1 l2 l3 l4 l5 l6 l7 l8 l9 l10 l11 hl
  have bb : 0 ≤ xb := (hb 0 _ _ rfl rfl).1
  have bm : 0 ≤ xm := (hb 1 _ _ rfl rfl).1
  have bg : 0 ≤ xg := (hb 2 _ _ rfl rfl).1
  clear hb
  have h0 := hf _ (List.mem_of_getElem? (i := 0) rfl)
  simp [sv_FQk, sv_FQ, sv_evs, sv_ev, sv_evT, sv_nth, sv_adq, sv_gs] at h0
  have h1 := hf _ (List.mem_of_getElem? (i := 1) rfl)
  simp [sv_FQk, sv_FQ, sv_evs, sv_ev, sv_evT, sv_nth, sv_adq, sv_gs] at h1
  have h2 := hf _ (List.mem_of_getElem? (i := 2) rfl)
  simp [sv_FQk, sv_FQ, sv_evs, sv_ev, sv_evT, sv_nth, sv_adq, sv_gs] at h2
  have h3 := hf _ (List.mem_of_getElem? (i := 3) rfl)
  simp [sv_FQk, sv_FQ, sv_evs, sv_ev, sv_evT, sv_nth, sv_adq, sv_gs] at h3
  have h4 := hf _ (List.mem_of_getElem? (i := 4) rfl)
  simp [sv_FQk, sv_FQ, sv_evs, sv_ev, sv_evT, sv_nth, sv_adq, sv_gs] at h4
  have h5 := hf _ (List.mem_of_getElem? (i := 5) rfl)
  simp [sv_FQk, sv_FQ, sv_evs, sv_ev, sv_evT, sv_nth, sv_adq, sv_gs] at h5
  have h6 := hf _ (List.mem_of_getElem? (i := 6) rfl)
  simp [sv_FQk, sv_FQ, sv_evs, sv_ev, sv_evT, sv_nth, sv_adq, sv_gs] at h6
  have h7 := hf _ (List.mem_of_getElem? (i := 7) rfl)
  simp [sv_FQk, sv_FQ, sv_evs, sv_ev, sv_evT, sv_nth, sv_adq, sv_gs] at h7
  have h8 := hf _ (List.mem_of_getElem? (i := 8) rfl)
  simp [sv_FQk, sv_FQ, sv_evs, sv_ev, sv_evT, sv_nth, sv_adq, sv_gs] at h8
  have h9 := hf _ (List.mem_of_getElem? (i := 9) rfl)
  simp [sv_FQk, sv_FQ, sv_evs, sv_ev, sv_evT, sv_nth, sv_adq, sv_gs] at h9
  have h10 := hf _ (List.mem_of_getElem? (i := 10) rfl)
  simp [sv_FQk, sv_FQ, sv_evs, sv_ev, sv_evT, sv_nth, sv_adq, sv_gs] at h10
  have h11 := hf _ (List.mem_of_getElem? (i := 11) rfl)
  simp [sv_FQk, sv_FQ, sv_evs, sv_ev, sv_evT, sv_nth, sv_adq, sv_gs] at h11
  have h12 := hf _ (List.mem_of_getElem? (i := 12) rfl)
  simp [sv_FQk, sv_FQ, sv_evs, sv_ev, sv_evT, sv_nth, sv_adq, sv_gs] at h12
  have h13 := hf _ (List.mem_of_getElem? (i := 13) rfl)
  simp [sv_FQk, sv_FQ, sv_evs, sv_ev, sv_evT, sv_nth, sv_adq, sv_gs] at h13
  have h14 := hf _ (List.mem_of_getElem? (i := 14) rfl)
  simp [sv_FQk, sv_FQ, sv_evs, sv_ev, sv_evT, sv_nth, sv_adq, sv_gs] at h14
  have h15 := hf _ (List.mem_of_getElem? (i := 15) rfl)
  simp [sv_FQk, sv_FQ, sv_evs, sv_ev, sv_evT, sv_nth, sv_adq, sv_gs] at h15
  have h16 := hf _ (List.mem_of_getElem? (i := 16) rfl)
  simp [sv_FQk, sv_FQ, sv_evs, sv_ev, sv_evT, sv_nth, sv_adq, sv_gs] at h16
  have h17 := hf _ (List.mem_of_getElem? (i := 17) rfl)
  simp [sv_FQk, sv_FQ, sv_evs, sv_ev, sv_evT, sv_nth, sv_adq, sv_gs] at h17
  have h18 := hf _ (List.mem_of_getElem? (i := 18) rfl)
  simp [sv_FQk, sv_FQ, sv_evs, sv_ev, sv_evT, sv_nth, sv_adq, sv_gs] at h18
  have h19 := hf _ (List.mem_of_getElem? (i := 19) rfl)
  simp [sv_FQk, sv_FQ, sv_evs, sv_ev, sv_evT, sv_nth, sv_adq, sv_gs] at h19
  clear hf
  have Kb : kf xb = 45 := by omega
  have Kg : kf xg = 44 := by omega
  replace h2 := h2 bm (by omega) (by have := h5 bm; omega)
  replace h3 := h3 bm (by omega) (by have := h5 bm; omega)
  replace h4 := h4 bm (by omega) (by have := h5 bm; omega)
  have Km : kf xm = 46 := by omega
  replace h16 := h16 bb (by omega) (by have := h8 bb; omega)
  intro f hf
  have hf : f ∈ [(22, [], [(0, [(0, 1)]), (0, [(1, 1)]), (0, [(2, 1)]), (0, [(3, 1)]), (0, [(4, 1)]), (0, [(5, 1)])])] := hf
  simp only [List.mem_cons, List.not_mem_nil, or_false] at hf
  subst hf
  · simp [sv_FQk, sv_FQ, sv_evs, sv_ev, sv_evT, sv_nth, sv_adq, sv_gs, q_Ks_6, q_Q_6]
    refine ⟨⟨⟨bb, Kb⟩, ⟨bm, Km⟩, ⟨bg, Kg⟩⟩, ?_⟩
    rw [sv_Qvok_iff]
    unfold sv_vr
    rw [h2, h3, h4]
    omega
-- vok_3_10
def q_l39 : SvM := ([(0, none), (0, none), (0, none), (-1180591620717411303424, none), (-1180591620717411303424, none), (-1180591620717411303424, none), (-1180591620717411303424, none), (-1180591620717411303424, none), (-1180591620717411303424, none), (-1180591620717411303424, none), (-1180591620717411303424, none), (-1180591620717411303424, none)], [(1, [45], [(0, [(0, 1)])]), (1, [44], [(0, [(2, 1)])]), (4, [46, 1], [(0, [(1, 1)]), (0, [(3, 3)]), (0, [(6, 1)])]), (4, [46, 1], [(0, [(1, 1)]), (1, [(3, 3)]), (0, [(7, 1)])]), (4, [46, 1], [(0, [(1, 1)]), (2, [(3, 3)]), (0, [(8, 1)])]), (2, [], [(0, [(1, 1)]), (0, [(9, 1)])]), (0, [], [(0, [(3, 1)])]), (0, [], [(-3, [(3, -3), (9, 1)])]), (2, [], [(0, [(0, 1)]), (0, [(10, 1)])]), (1, [46], [(0, [(1, 1)])]), (0, [], [(-1, [(3, 1), (6, -1)])]), (0, [], [(-1, [(3, 1), (7, -1)])]), (0, [], [(-1, [(3, 1), (8, -1)])]), (0, [], [(3, [(4, -1)])]), (0, [], [(-3, [(4, 1)])]), (4, [45, 1], [(0, [(0, 1)]), (0, [(6, 1)]), (0, [(11, 1)])]), (0, [], [(0, [(6, 1)])]), (0, [], [(-1, [(6, -1), (10, 1)])]), (0, [], [(0, [(5, -1), (11, 1)])]), (0, [], [(-1, [(7, -1)])])], [(22, [], [(0, [(0, 1)]), (0, [(1, 1)]), (0, [(2, 1)]), (0, [(3, 1)]), (0, [(4, 1)]), (0, [(5, 1)])])])
theorem q_l39_ok : ∀ (g : Int → Int → Int) (ln : Int → Int) (kf : Int → Nat) (ρ : List Int), sv_BOk ρ q_l39.1 → (∀ f ∈ q_l39.2.1, sv_FQk q_Ks q_Q g ln kf ρ f) → ∀ f ∈ q_l39.2.2, sv_FQk q_Ks q_Q g ln kf ρ f := by
  intro g ln kf ρ hb hf
  obtain ⟨hl, hb⟩ := hb
  obtain ⟨xb, r0, rfl, l0⟩ := sv_lens hl
  obtain ⟨xm, r1, rfl, l1⟩ := sv_lens l0
  obtain ⟨xg, r2, rfl, l2⟩ := sv_lens l1
  obtain ⟨xv, r3, rfl, l3⟩ := sv_lens l2
  obtain ⟨xk, r4, rfl, l4⟩ := sv_lens l3
  obtain ⟨xy, r5, rfl, l5⟩ := sv_lens l4
  obtain ⟨xc, r6, rfl, l6⟩ := sv_lens l5
  obtain ⟨xd, r7, rfl, l7⟩ := sv_lens l6
  obtain ⟨xe, r8, rfl, l8⟩ := sv_lens l7
  obtain ⟨xNM, r9, rfl, l9⟩ := sv_lens l8
  obtain ⟨xNB, r10, rfl, l10⟩ := sv_lens l9
  obtain ⟨xcb, r11, rfl, l11⟩ := sv_lens l10
  obtain rfl := sv_len0 l11
  clear l0 l1 l2 l3 l4 l5 l6 l7 l8 l9 l10 l11 hl
  have bb : 0 ≤ xb := (hb 0 _ _ rfl rfl).1
  have bm : 0 ≤ xm := (hb 1 _ _ rfl rfl).1
  have bg : 0 ≤ xg := (hb 2 _ _ rfl rfl).1
  clear hb
  have h0 := hf _ (List.mem_of_getElem? (i := 0) rfl)
  simp [sv_FQk, sv_FQ, sv_evs, sv_ev, sv_evT, sv_nth, sv_adq, sv_gs] at h0
  have h1 := hf _ (List.mem_of_getElem? (i := 1) rfl)
  simp [sv_FQk, sv_FQ, sv_evs, sv_ev, sv_evT, sv_nth, sv_adq, sv_gs] at h1
  have h2 := hf _ (List.mem_of_getElem? (i := 2) rfl)
  simp [sv_FQk, sv_FQ, sv_evs, sv_ev, sv_evT, sv_nth, sv_adq, sv_gs] at h2
  have h3 := hf _ (List.mem_of_getElem? (i := 3) rfl)
  simp [sv_FQk, sv_FQ, sv_evs, sv_ev, sv_evT, sv_nth, sv_adq, sv_gs] at h3
  have h4 := hf _ (List.mem_of_getElem? (i := 4) rfl)
  simp [sv_FQk, sv_FQ, sv_evs, sv_ev, sv_evT, sv_nth, sv_adq, sv_gs] at h4
  have h5 := hf _ (List.mem_of_getElem? (i := 5) rfl)
  simp [sv_FQk, sv_FQ, sv_evs, sv_ev, sv_evT, sv_nth, sv_adq, sv_gs] at h5
  have h6 := hf _ (List.mem_of_getElem? (i := 6) rfl)
  simp [sv_FQk, sv_FQ, sv_evs, sv_ev, sv_evT, sv_nth, sv_adq, sv_gs] at h6
  have h7 := hf _ (List.mem_of_getElem? (i := 7) rfl)
  simp [sv_FQk, sv_FQ, sv_evs, sv_ev, sv_evT, sv_nth, sv_adq, sv_gs] at h7
  have h8 := hf _ (List.mem_of_getElem? (i := 8) rfl)
  simp [sv_FQk, sv_FQ, sv_evs, sv_ev, sv_evT, sv_nth, sv_adq, sv_gs] at h8
  have h9 := hf _ (List.mem_of_getElem? (i := 9) rfl)
  simp [sv_FQk, sv_FQ, sv_evs, sv_ev, sv_evT, sv_nth, sv_adq, sv_gs] at h9
  have h10 := hf _ (List.mem_of_getElem? (i := 10) rfl)
  simp [sv_FQk, sv_FQ, sv_evs, sv_ev, sv_evT, sv_nth, sv_adq, sv_gs] at h10
  have h11 := hf _ (List.mem_of_getElem? (i := 11) rfl)
  simp [sv_FQk, sv_FQ, sv_evs, sv_ev, sv_evT, sv_nth, sv_adq, sv_gs] at h11
  have h12 := hf _ (List.mem_of_getElem? (i := 12) rfl)
  simp [sv_FQk, sv_FQ, sv_evs, sv_ev, sv_evT, sv_nth, sv_adq, sv_gs] at h12
  have h13 := hf _ (List.mem_of_getElem? (i := 13) rfl)
  simp [sv_FQk, sv_FQ, sv_evs, sv_ev, sv_evT, sv_nth, sv_adq, sv_gs] at h13
  have h14 := hf _ (List.mem_of_getElem? (i := 14) rfl)
  simp [sv_FQk, sv_FQ, sv_evs, sv_ev, sv_evT, sv_nth, sv_adq, sv_gs] at h14
  have h15 := hf _ (List.mem_of_getElem? (i := 15) rfl)
  simp [sv_FQk, sv_FQ, sv_evs, sv_ev, sv_evT, sv_nth, sv_adq, sv_gs] at h15
  have h16 := hf _ (List.mem_of_getElem? (i := 16) rfl)
  simp [sv_FQk, sv_FQ, sv_evs, sv_ev, sv_evT, sv_nth, sv_adq, sv_gs] at h16
  have h17 := hf _ (List.mem_of_getElem? (i := 17) rfl)
  simp [sv_FQk, sv_FQ, sv_evs, sv_ev, sv_evT, sv_nth, sv_adq, sv_gs] at h17
  have h18 := hf _ (List.mem_of_getElem? (i := 18) rfl)
  simp [sv_FQk, sv_FQ, sv_evs, sv_ev, sv_evT, sv_nth, sv_adq, sv_gs] at h18
  have h19 := hf _ (List.mem_of_getElem? (i := 19) rfl)
  simp [sv_FQk, sv_FQ, sv_evs, sv_ev, sv_evT, sv_nth, sv_adq, sv_gs] at h19
  clear hf
  have Kb : kf xb = 45 := by omega
  have Kg : kf xg = 44 := by omega
  replace h2 := h2 bm (by omega) (by have := h5 bm; omega)
  replace h3 := h3 bm (by omega) (by have := h5 bm; omega)
  replace h4 := h4 bm (by omega) (by have := h5 bm; omega)
  have Km : kf xm = 46 := by omega
  replace h15 := h15 bb (by omega) (by have := h8 bb; omega)
  intro f hf
  have hf : f ∈ [(22, [], [(0, [(0, 1)]), (0, [(1, 1)]), (0, [(2, 1)]), (0, [(3, 1)]), (0, [(4, 1)]), (0, [(5, 1)])])] := hf
  simp only [List.mem_cons, List.not_mem_nil, or_false] at hf
  subst hf
  · simp [sv_FQk, sv_FQ, sv_evs, sv_ev, sv_evT, sv_nth, sv_adq, sv_gs, q_Ks_6, q_Q_6]
    refine ⟨⟨⟨bb, Kb⟩, ⟨bm, Km⟩, ⟨bg, Kg⟩⟩, ?_⟩
    rw [sv_Qvok_iff]
    unfold sv_vr
    rw [h2, h3, h4]
    omega
-- vok_3_11
def q_l40 : SvM := ([(0, none), (0, none), (0, none), (-1180591620717411303424, none), (-1180591620717411303424, none), (-1180591620717411303424, none), (-1180591620717411303424, none), (-1180591620717411303424, none), (-1180591620717411303424, none), (-1180591620717411303424, none), (-1180591620717411303424, none), (-1180591620717411303424, none), (-1180591620717411303424, none)], [(1, [45], [(0, [(0, 1)])]), (1, [44], [(0, [(2, 1)])]), (4, [46, 1], [(0, [(1, 1)]), (0, [(3, 3)]), (0, [(6, 1)])]), (4, [46, 1], [(0, [(1, 1)]), (1, [(3, 3)]), (0, [(7, 1)])]), (4, [46, 1], [(0, [(1, 1)]), (2, [(3, 3)]), (0, [(8, 1)])]), (2, [], [(0, [(1, 1)]), (0, [(9, 1)])]), (0, [], [(0, [(3, 1)])]), (0, [], [(-3, [(3, -3), (9, 1)])]), (2, [], [(0, [(0, 1)]), (0, [(10, 1)])]), (1, [46], [(0, [(1, 1)])]), (0, [], [(-1, [(3, 1), (6, -1)])]), (0, [], [(-1, [(3, 1), (7, -1)])]), (0, [], [(-1, [(3, 1), (8, -1)])]), (0, [], [(3, [(4, -1)])]), (0, [], [(-3, [(4, 1)])]), (4, [45, 1], [(0, [(0, 1)]), (0, [(6, 1)]), (0, [(11, 1)])]), (0, [], [(0, [(6, 1)])]), (0, [], [(-1, [(6, -1), (10, 1)])]), (0, [], [(0, [(5, -1), (11, 1)])]), (4, [45, 1], [(0, [(0, 1)]), (0, [(7, 1)]), (0, [(12, 1)])]), (0, [], [(0, [(7, 1)])]), (0, [], [(-1, [(7, -1), (10, 1)])]), (0, [], [(0, [(5, -1), (12, 1)])])], [(22, [], [(0, [(0, 1)]), (0, [(1, 1)]), (0, [(2, 1)]), (0, [(3, 1)]), (0, [(4, 1)]), (0, [(5, 1)])])])
theorem q_l40_ok : ∀ (g : Int → Int → Int) (ln : Int → Int) (kf : Int → Nat) (ρ : List Int), sv_BOk ρ q_l40.1 → (∀ f ∈ q_l40.2.1, sv_FQk q_Ks q_Q g ln kf ρ f) → ∀ f ∈ q_l40.2.2, sv_FQk q_Ks q_Q g ln kf ρ f := by
  intro g ln kf ρ hb hf
  obtain ⟨hl, hb⟩ := hb
  obtain ⟨xb, r0, rfl, l0⟩ := sv_lens hl
  obtain ⟨xm, r1, rfl, l1⟩ := sv_lens l0
  obtain ⟨xg, r2, rfl, l2⟩ := sv_lens l1
  obtain ⟨xv, r3, rfl, l3⟩ := sv_lens l2
  obtain ⟨xk, r4, rfl, l4⟩ := sv_lens l3
  obtain ⟨xy, r5, rfl, l5⟩ := sv_lens l4
  obtain ⟨xc, r6, rfl, l6⟩ := sv_lens l5
  obtain ⟨xd, r7, rfl, l7⟩ := sv_lens l6
  obtain ⟨xe, r8, rfl, l8⟩ := sv_lens l7
  obtain ⟨xNM, r9, rfl, l9⟩ := sv_lens l8
  obtain ⟨xNB, r10, rfl, l10⟩ := sv_lens l9
  obtain ⟨xcb, r11, rfl, l11⟩ := sv_lens l10
  obtain ⟨xdb, r12, rfl, l12⟩ := sv_lens l11
  obtain rfl := sv_len0 l12
  clear l0 l1 l2 l3 l4 l5 l6 l7 l8 l9 l10 l11 l12 hl
  have bb : 0 ≤ xb := (hb 0 _ _ rfl rfl).1
  have bm : 0 ≤ xm := (hb 1 _ _ rfl rfl).1
  have bg : 0 ≤ xg := (hb 2 _ _ rfl rfl).1
  clear hb
  have h0 := hf _ (List.mem_of_getElem? (i := 0) rfl)
  simp [sv_FQk, sv_FQ, sv_evs, sv_ev, sv_evT, sv_nth, sv_adq, sv_gs] at h0
  have h1 := hf _ (List.mem_of_getElem? (i := 1) rfl)
  simp [sv_FQk, sv_FQ, sv_evs, sv_ev, sv_evT, sv_nth, sv_adq, sv_gs] at h1
  have h2 := hf _ (List.mem_of_getElem? (i := 2) rfl)
  simp [sv_FQk, sv_FQ, sv_evs, sv_ev, sv_evT, sv_nth, sv_adq, sv_gs] at h2
  have h3 := hf _ (List.mem_of_getElem? (i := 3) rfl)
  simp [sv_FQk, sv_FQ, sv_evs, sv_ev, sv_evT, sv_nth, sv_adq, sv_gs] at h3
  have h4 := hf _ (List.mem_of_getElem? (i := 4) rfl)
  simp [sv_FQk, sv_FQ, sv_evs, sv_ev, sv_evT, sv_nth, sv_adq, sv_gs] at h4
  have h5 := hf _ (List.mem_of_getElem? (i := 5) rfl)
  simp [sv_FQk, sv_FQ, sv_evs, sv_ev, sv_evT, sv_nth, sv_adq, sv_gs] at h5
  have h6 := hf _ (List.mem_of_getElem? (i := 6) rfl)
  simp [sv_FQk, sv_FQ, sv_evs, sv_ev, sv_evT, sv_nth, sv_adq, sv_gs] at h6
  have h7 := hf _ (List.mem_of_getElem? (i := 7) rfl)
  simp [sv_FQk, sv_FQ, sv_evs, sv_ev, sv_evT, sv_nth, sv_adq, sv_gs] at h7
  have h8 := hf _ (List.mem_of_getElem? (i := 8) rfl)
  simp [sv_FQk, sv_FQ, sv_evs, sv_ev, sv_evT, sv_nth, sv_adq, sv_gs] at h8
  have h9 := hf _ (List.mem_of_getElem? (i := 9) rfl)
  simp [sv_FQk, sv_FQ, sv_evs, sv_ev, sv_evT, sv_nth, sv_adq, sv_gs] at h9
  have h10 := hf _ (List.mem_of_getElem? (i := 10) rfl)
  simp [sv_FQk, sv_FQ, sv_evs, sv_ev, sv_evT, sv_nth, sv_adq, sv_gs] at h10
  have h11 := hf _ (List.mem_of_getElem? (i := 11) rfl)
  simp [sv_FQk, sv_FQ, sv_evs, sv_ev, sv_evT, sv_nth, sv_adq, sv_gs] at h11
  have h12 := hf _ (List.mem_of_getElem? (i := 12) rfl)
  simp [sv_FQk, sv_FQ, sv_evs, sv_ev, sv_evT, sv_nth, sv_adq, sv_gs] at h12
  have h13 := hf _ (List.mem_of_getElem? (i := 13) rfl)
  simp [sv_FQk, sv_FQ, sv_evs, sv_ev, sv_evT, sv_nth, sv_adq, sv_gs] at h13
  have h14 := hf _ (List.mem_of_getElem? (i := 14) rfl)
  simp [sv_FQk, sv_FQ, sv_evs, sv_ev, sv_evT, sv_nth, sv_adq, sv_gs] at h14
  have h15 := hf _ (List.mem_of_getElem? (i := 15) rfl)
  simp [sv_FQk, sv_FQ, sv_evs, sv_ev, sv_evT, sv_nth, sv_adq, sv_gs] at h15
  have h16 := hf _ (List.mem_of_getElem? (i := 16) rfl)
  simp [sv_FQk, sv_FQ, sv_evs, sv_ev, sv_evT, sv_nth, sv_adq, sv_gs] at h16
  have h17 := hf _ (List.mem_of_getElem? (i := 17) rfl)
  simp [sv_FQk, sv_FQ, sv_evs, sv_ev, sv_evT, sv_nth, sv_adq, sv_gs] at h17
  have h18 := hf _ (List.mem_of_getElem? (i := 18) rfl)
  simp [sv_FQk, sv_FQ, sv_evs, sv_ev, sv_evT, sv_nth, sv_adq, sv_gs] at h18
  have h19 := hf _ (List.mem_of_getElem? (i := 19) rfl)
  simp [sv_FQk, sv_FQ, sv_evs, sv_ev, sv_evT, sv_nth, sv_adq, sv_gs] at h19
  have h20 := hf _ (List.mem_of_getElem? (i := 20) rfl)
  simp [sv_FQk, sv_FQ, sv_evs, sv_ev, sv_evT, sv_nth, sv_adq, sv_gs] at h20
  have h21 := hf _ (List.mem_of_getElem? (i := 21) rfl)
  simp [sv_FQk, sv_FQ, sv_evs, sv_ev, sv_evT, sv_nth, sv_adq, sv_gs] at h21
  have h22 := hf _ (List.mem_of_getElem? (i := 22) rfl)
  simp [sv_FQk, sv_FQ, sv_evs, sv_ev, sv_evT, sv_nth, sv_adq, sv_gs] at h22
  clear hf
  have Kb : kf xb = 45 := by omega
  have Kg : kf xg = 44 := by omega
  replace h2 := h2 bm (by omega) (by have := h5 bm; omega)
  replace h3 := h3 bm (by omega) (by have := h5 bm; omega)
  replace h4 := h4 bm (by omega) (by have := h5 bm; omega)
  have Km : kf xm = 46 := by omega
  replace h15 := h15 bb (by omega) (by have := h8 bb; omega)
  replace h19 := h19 bb (by omega) (by have := h8 bb; omega)
  intro f hf
  have hf : f ∈ [(22, [], [(0, [(0, 1)]), (0, [(1, 1)]), (0, [(2, 1)]), (0, [(3, 1)]), (0, [(4, 1)]), (0, [(5, 1)])])] := hf
  simp only [List.mem_cons, List.not_mem_nil, or_false] at hf
  subst hf
  · simp [sv_FQk, sv_FQ, sv_evs, sv_ev, sv_evT, sv_nth, sv_adq, sv_gs, q_Ks_6, q_Q_6]
    refine ⟨⟨⟨bb, Kb⟩, ⟨bm, Km⟩, ⟨bg, Kg⟩⟩, ?_⟩
    rw [sv_Qvok_iff]
    unfold sv_vr
    rw [h2, h3, h4]
    omega
-- vok_4_000
def q_l41 : SvM := ([(0, none), (0, none), (0, none), (-1180591620717411303424, none), (-1180591620717411303424, none), (-1180591620717411303424, none), (-1180591620717411303424, none), (-1180591620717411303424, none), (-1180591620717411303424, none), (-1180591620717411303424, none), (-1180591620717411303424, none)], [(1, [45], [(0, [(0, 1)])]), (1, [44], [(0, [(2, 1)])]), (4, [46, 1], [(0, [(1, 1)]), (0, [(3, 3)]), (0, [(6, 1)])]), (4, [46, 1], [(0, [(1, 1)]), (1, [(3, 3)]), (0, [(7, 1)])]), (4, [46, 1], [(0, [(1, 1)]), (2, [(3, 3)]), (0, [(8, 1)])]), (2, [], [(0, [(1, 1)]), (0, [(9, 1)])]), (0, [], [(0, [(3, 1)])]), (0, [], [(-3, [(3, -3), (9, 1)])]), (2, [], [(0, [(0, 1)]), (0, [(10, 1)])]), (1, [46], [(0, [(1, 1)])]), (0, [], [(-1, [(3, 1), (6, -1)])]), (0, [], [(-1, [(3, 1), (7, -1)])]), (0, [], [(-1, [(3, 1), (8, -1)])]), (0, [], [(4, [(4, -1)])]), (0, [], [(-4, [(4, 1)])]), (0, [], [(-1, [(6, -1)])]), (0, [], [(-1, [(7, -1)])]), (0, [], [(-1, [(8, -1)])])], [(22, [], [(0, [(0, 1)]), (0, [(1, 1)]), (0, [(2, 1)]), (0, [(3, 1)]), (0, [(4, 1)]), (0, [(5, 1)])])])
theorem q_l41_ok : ∀ (g : Int → Int → Int) (ln : Int → Int) (kf : Int → Nat) (ρ : List Int), sv_BOk ρ q_l41.1 → (∀ f ∈ q_l41.2.1, sv_FQk q_Ks q_Q g ln kf ρ f) → ∀ f ∈ q_l41.2.2, sv_FQk q_Ks q_Q g ln kf ρ f := by
  intro g ln kf ρ hb hf
  obtain ⟨hl, hb⟩ := hb
  obtain ⟨xb, r0, rfl, l0⟩ := sv_lens hl
  obtain ⟨xm, r1, rfl, l1⟩ := sv_lens l0
  obtain ⟨xg, r2, rfl, l2⟩ := sv_lens l1
  obtain ⟨xv, r3, rfl, l3⟩ := sv_lens l2
  obtain ⟨xk, r4, rfl, l4⟩ := sv_lens l3
  obtain ⟨xy, r5, rfl, l5⟩ := sv_lens l4
  obtain ⟨xc, r6, rfl, l6⟩ := sv_lens l5
  obtain ⟨xd, r7, rfl, l7⟩ := sv_lens l6
  obtain ⟨xe, r8, rfl, l8⟩ := sv_lens l7
  obtain ⟨xNM, r9, rfl, l9⟩ := sv_lens l8
  obtain ⟨xNB, r10, rfl, l10⟩ := sv_lens l9
  obtain rfl := sv_len0 l10
  clear l0 l1 l2 l3 l4 l5 l6 l7 l8 l9 l10 hl
  have bb : 0 ≤ xb := (hb 0 _ _ rfl rfl).1
  have bm : 0 ≤ xm := (hb 1 _ _ rfl rfl).1
  have bg : 0 ≤ xg := (hb 2 _ _ rfl rfl).1
  clear hb
  have h0 := hf _ (List.mem_of_getElem? (i := 0) rfl)
  simp [sv_FQk, sv_FQ, sv_evs, sv_ev, sv_evT, sv_nth, sv_adq, sv_gs] at h0
  have h1 := hf _ (List.mem_of_getElem? (i := 1) rfl)
  simp [sv_FQk, sv_FQ, sv_evs, sv_ev, sv_evT, sv_nth, sv_adq, sv_gs] at h1
  have h2 := hf _ (List.mem_of_getElem? (i := 2) rfl)
  simp [sv_FQk, sv_FQ, sv_evs, sv_ev, sv_evT, sv_nth, sv_adq, sv_gs] at h2
  have h3 := hf _ (List.mem_of_getElem? (i := 3) rfl)
  simp [sv_FQk, sv_FQ, sv_evs, sv_ev, sv_evT, sv_nth, sv_adq, sv_gs] at h3
  have h4 := hf _ (List.mem_of_getElem? (i := 4) rfl)
  simp [sv_FQk, sv_FQ, sv_evs, sv_ev, sv_evT, sv_nth, sv_adq, sv_gs] at h4
  have h5 := hf _ (List.mem_of_getElem? (i := 5) rfl)
  simp [sv_FQk, sv_FQ, sv_evs, sv_ev, sv_evT, sv_nth, sv_adq, sv_gs] at h5
  have h6 := hf _ (List.mem_of_getElem? (i := 6) rfl)
  simp [sv_FQk, sv_FQ, sv_evs, sv_ev, sv_evT, sv_nth, sv_adq, sv_gs] at h6
  have h7 := hf _ (List.mem_of_getElem? (i := 7) rfl)
  simp [sv_FQk, sv_FQ, sv_evs, sv_ev, sv_evT, sv_nth, sv_adq, sv_gs] at h7
  have h8 := hf _ (List.mem_of_getElem? (i := 8) rfl)
  simp [sv_FQk, sv_FQ, sv_evs, sv_ev, sv_evT, sv_nth, sv_adq, sv_gs] at h8
  have h9 := hf _ (List.mem_of_getElem? (i := 9) rfl)
  simp [sv_FQk, sv_FQ, sv_evs, sv_ev, sv_evT, sv_nth, sv_adq, sv_gs] at h9
  have h10 := hf _ (List.mem_of_getElem? (i := 10) rfl)
  simp [sv_FQk, sv_FQ, sv_evs, sv_ev, sv_evT, sv_nth, sv_adq, sv_gs] at h10
  have h11 := hf _ (List.mem_of_getElem? (i := 11) rfl)
  simp [sv_FQk, sv_FQ, sv_evs, sv_ev, sv_evT, sv_nth, sv_adq, sv_gs] at h11
  have h12 := hf _ (List.mem_of_getElem? (i := 12) rfl)
  simp [sv_FQk, sv_FQ, sv_evs, sv_ev, sv_evT, sv_nth, sv_adq, sv_gs] at h12
  have h13 := hf _ (List.mem_of_getElem? (i := 13) rfl)
  simp [sv_FQk, sv_FQ, sv_evs, sv_ev, sv_evT, sv_nth, sv_adq, sv_gs] at h13
  have h14 := hf _ (List.mem_of_getElem? (i := 14) rfl)
  simp [sv_FQk, sv_FQ, sv_evs, sv_ev, sv_evT, sv_nth, sv_adq, sv_gs] at h14
  have h15 := hf _ (List.mem_of_getElem? (i := 15) rfl)
  simp [sv_FQk, sv_FQ, sv_evs, sv_ev, sv_evT, sv_nth, sv_adq, sv_gs] at h15
  have h16 := hf _ (List.mem_of_getElem? (i := 16) rfl)
  simp [sv_FQk, sv_FQ, sv_evs, sv_ev, sv_evT, sv_nth, sv_adq, sv_gs] at h16
  have h17 := hf _ (List.mem_of_getElem? (i := 17) rfl)
  simp [sv_FQk, sv_FQ, sv_evs, sv_ev, sv_evT, sv_nth, sv_adq, sv_gs] at h17
  clear hf
  have Kb : kf xb = 45 := by omega
  have Kg : kf xg = 44 := by omega
  replace h2 := h2 bm (by omega) (by have := h5 bm; omega)
  replace h3 := h3 bm (by omega) (by have := h5 bm; omega)
  replace h4 := h4 bm (by omega) (by have := h5 bm; omega)
  have Km : kf xm = 46 := by omega
  intro f hf
  have hf : f ∈ [(22, [], [(0, [(0, 1)]), (0, [(1, 1)]), (0, [(2, 1)]), (0, [(3, 1)]), (0, [(4, 1)]), (0, [(5, 1)])])] := hf
  simp only [List.mem_cons, List.not_mem_nil, or_false] at hf
  subst hf
  · simp [sv_FQk, sv_FQ, sv_evs, sv_ev, sv_evT, sv_nth, sv_adq, sv_gs, q_Ks_6, q_Q_6]
    refine ⟨⟨⟨bb, Kb⟩, ⟨bm, Km⟩, ⟨bg, Kg⟩⟩, ?_⟩
    rw [sv_Qvok_iff]
    unfold sv_vr
    rw [h2, h3, h4]
    omega
-- vok_4_001
def q_l42 : SvM := ([(0, none), (0, none), (0, none), (-1180591620717411303424, none), (-1180591620717411303424, none), (-1180591620717411303424, none), (-1180591620717411303424, none), (-1180591620717411303424, none), (-1180591620717411303424, none), (-1180591620717411303424, none), (-1180591620717411303424, none), (-1180591620717411303424, none)], [(1, [45], [(0, [(0, 1)])]), (1, [44], [(0, [(2, 1)])]), (4, [46, 1], [(0, [(1, 1)]), (0, [(3, 3)]), (0, [(6, 1)])]), (4, [46, 1], [(0, [(1, 1)]), (1, [(3, 3)]), (0, [(7, 1)])]), (4, [46, 1], [(0, [(1, 1)]), (2, [(3, 3)]), (0, [(8, 1)])]), (2, [], [(0, [(1, 1)]), (0, [(9, 1)])]), (0, [], [(0, [(3, 1)])]), (0, [], [(-3, [(3, -3), (9, 1)])]), (2, [], [(0, [(0, 1)]), (0, [(10, 1)])]), (1, [46], [(0, [(1, 1)])]), (0, [], [(-1, [(3, 1), (6, -1)])]), (0, [], [(-1, [(3, 1), (7, -1)])]), (0, [], [(-1, [(3, 1), (8, -1)])]), (0, [], [(4, [(4, -1)])]), (0, [], [(-4, [(4, 1)])]), (0, [], [(-1, [(6, -1)])]), (0, [], [(-1, [(7, -1)])]), (4, [45, 1], [(0, [(0, 1)]), (0, [(8, 1)]), (0, [(11, 1)])]), (0, [], [(0, [(8, 1)])]), (0, [], [(-1, [(8, -1), (10, 1)])]), (0, [], [(0, [(5, -1), (11, 2)])])], [(22, [], [(0, [(0, 1)]), (0, [(1, 1)]), (0, [(2, 1)]), (0, [(3, 1)]), (0, [(4, 1)]), (0, [(5, 1)])])])
theorem q_l42_ok : ∀ (g : Int → Int → Int) (ln : Int → Int) (kf : Int → Nat) (ρ : List Int), sv_BOk ρ q_l42.1 → (∀ f ∈ q_l42.2.1, sv_FQk q_Ks q_Q g ln kf ρ f) → ∀ f ∈ q_l42.2.2, sv_FQk q_Ks q_Q g ln kf ρ f := by
  intro g ln kf ρ hb hf
  obtain ⟨hl, hb⟩ := hb
  obtain ⟨xb, r0, rfl, l0⟩ := sv_lens hl
  obtain ⟨xm, r1, rfl, l1⟩ := sv_lens l0
  obtain ⟨xg, r2, rfl, l2⟩ := sv_lens l1
  obtain ⟨xv, r3, rfl, l3⟩ := sv_lens l2
  obtain ⟨xk, r4, rfl, l4⟩ := sv_lens l3
  obtain ⟨xy, r5, rfl, l5⟩ := sv_lens l4
  obtain ⟨xc, r6, rfl, l6⟩ := sv_lens l5
  obtain ⟨xd, r7, rfl, l7⟩ := sv_lens l6
  obtain ⟨xe, r8, rfl, l8⟩ := sv_lens l7
  obtain ⟨xNM, r9, rfl, l9⟩ := sv_lens l8
  obtain ⟨xNB, r10, rfl, l10⟩ := sv_lens l9
  obtain ⟨xeb, r11, rfl, l11⟩ := sv_lens l10
  obtain rfl := sv_len0 l11
  clear l0 l1 l2 l3 l4 l5 l6 l7 l8 l9 l10 l11 hl
  have bb : 0 ≤ xb := (hb 0 _ _ rfl rfl).1
  have bm : 0 ≤ xm := (hb 1 _ _ rfl rfl).1
  have bg : 0 ≤ xg := (hb 2 _ _ rfl rfl).1
  clear hb
  have h0 := hf _ (List.mem_of_getElem? (i := 0) rfl)
  simp [sv_FQk, sv_FQ, sv_evs, sv_ev, sv_evT, sv_nth, sv_adq, sv_gs] at h0
  have h1 := hf _ (List.mem_of_getElem? (i := 1) rfl)
  simp [sv_FQk, sv_FQ, sv_evs, sv_ev, sv_evT, sv_nth, sv_adq, sv_gs] at h1
  have h2 := hf _ (List.mem_of_getElem? (i := 2) rfl)
  simp [sv_FQk, sv_FQ, sv_evs, sv_ev, sv_evT, sv_nth, sv_adq, sv_gs] at h2
  have h3 := hf _ (List.mem_of_getElem? (i := 3) rfl)
  simp [sv_FQk, sv_FQ, sv_evs, sv_ev, sv_evT, sv_nth, sv_adq, sv_gs] at h3
  have h4 := hf _ (List.mem_of_getElem? (i := 4) rfl)
  simp [sv_FQk, sv_FQ, sv_evs, sv_ev, sv_evT, sv_nth, sv_adq, sv_gs] at h4
  have h5 := hf _ (List.mem_of_getElem? (i := 5) rfl)
  simp [sv_FQk, sv_FQ, sv_evs, sv_ev, sv_evT, sv_nth, sv_adq, sv_gs] at h5
  have h6 := hf _ (List.mem_of_getElem? (i := 6) rfl)
  simp [sv_FQk, sv_FQ, sv_evs, sv_ev, sv_evT, sv_nth, sv_adq, sv_gs] at h6
  have h7 := hf _ (List.mem_of_getElem? (i := 7) rfl)
  simp [sv_FQk, sv_FQ, sv_evs, sv_ev, sv_evT, sv_nth, sv_adq, sv_gs] at h7
  have h8 := hf _ (List.mem_of_getElem? (i := 8) rfl)
  simp [sv_FQk, sv_FQ, sv_evs, sv_ev, sv_evT, sv_nth, sv_adq, sv_gs] at h8
  have h9 := hf _ (List.mem_of_getElem? (i := 9) rfl)
  simp [sv_FQk, sv_FQ, sv_evs, sv_ev, sv_evT, sv_nth, sv_adq, sv_gs] at h9
  have h10 := hf _ (List.mem_of_getElem? (i := 10) rfl)
  simp [sv_FQk, sv_FQ, sv_evs, sv_ev, sv_evT, sv_nth, sv_adq, sv_gs] at h10
  have h11 := hf _ (List.mem_of_getElem? (i := 11) rfl)
  simp [sv_FQk, sv_FQ, sv_evs, sv_ev, sv_evT, sv_nth, sv_adq, sv_gs] at h11
  have h12 := hf _ (List.mem_of_getElem? (i := 12) rfl)
  simp [sv_FQk, sv_FQ, sv_evs, sv_ev, sv_evT, sv_nth, sv_adq, sv_gs] at h12
  have h13 := hf _ (List.mem_of_getElem? (i := 13) rfl)
  simp [sv_FQk, sv_FQ, sv_evs, sv_ev, sv_evT, sv_nth, sv_adq, sv_gs] at h13
  have h14 := hf _ (List.mem_of_getElem? (i := 14) rfl)
  simp [sv_FQk, sv_FQ, sv_evs, sv_ev, sv_evT, sv_nth, sv_adq, sv_gs] at h14
  have h15 := hf _ (List.mem_of_getElem? (i := 15) rfl)
  simp [sv_FQk, sv_FQ, sv_evs, sv_ev, sv_evT, sv_nth, sv_adq, sv_gs] at h15
  have h16 := hf _ (List.mem_of_getElem? (i := 16) rfl)
  simp [sv_FQk, sv_FQ, sv_evs, sv_ev, sv_evT, sv_nth, sv_adq, sv_gs] at h16
  have h17 := hf _ (List.mem_of_getElem? (i := 17) rfl)
  simp [sv_FQk, sv_FQ, sv_evs, sv_ev, sv_evT, sv_nth, sv_adq, sv_gs] at h17
  have h18 := hf _ (List.mem_of_getElem? (i := 18) rfl)
  simp [sv_FQk, sv_FQ, sv_evs, sv_ev, sv_evT, sv_nth, sv_adq, sv_gs] at h18
  have h19 := hf _ (List.mem_of_getElem? (i := 19) rfl)
  simp [sv_FQk, sv_FQ, sv_evs, sv_ev, sv_evT, sv_nth, sv_adq, sv_gs] at h19
  have h20 := hf _ (List.mem_of_getElem? (i := 20) rfl)
  simp [sv_FQk, sv_FQ, sv_evs, sv_ev, sv_evT, sv_nth, sv_adq, sv_gs] at h20
  clear hf
  have Kb : kf xb = 45 := by omega
  have Kg : kf xg = 44 := by omega
  replace h2 := h2 bm (by omega) (by have := h5 bm; omega)
  replace h3 := h3 bm (by omega) (by have := h5 bm; omega)
  replace h4 := h4 bm (by omega) (by have := h5 bm; omega)
  have Km : kf xm = 46 := by omega
  replace h17 := h17 bb (by omega) (by have := h8 bb; omega)
  intro f hf
  have hf : f ∈ [(22, [], [(0, [(0, 1)]), (0, [(1, 1)]), (0, [(2, 1)]), (0, [(3, 1)]), (0, [(4, 1)]), (0, [(5, 1)])])] := hf
  simp only [List.mem_cons, List.not_mem_nil, or_false] at hf
  subst hf
  · simp [sv_FQk, sv_FQ, sv_evs, sv_ev, sv_evT, sv_nth, sv_adq, sv_gs, q_Ks_6, q_Q_6]
    refine ⟨⟨⟨bb, Kb⟩, ⟨bm, Km⟩, ⟨bg, Kg⟩⟩, ?_⟩
    rw [sv_Qvok_iff]
    unfold sv_vr
    rw [h2, h3, h4]
    omega
-- vok_4_010
def q_l43 : SvM := ([(0, none), (0, none), (0, none), (-1180591620717411303424, none), (-1180591620717411303424, none), (-1180591620717411303424, none), (-1180591620717411303424, none), (-1180591620717411303424, none), (-1180591620717411303424, none), (-1180591620717411303424, none), (-1180591620717411303424, none), (-1180591620717411303424, none)], [(1, [45], [(0, [(0, 1)])]), (1, [44], [(0, [(2, 1)])]), (4, [46, 1], [(0, [(1, 1)]), (0, [(3, 3)]), (0, [(6, 1)])]), (4, [46, 1], [(0, [(1, 1)]), (1, [(3, 3)]), (0, [(7, 1)])]), (4, [46, 1], [(0, [(1, 1)]), (2, [(3, 3)]), (0, [(8, 1)])]), (2, [], [(0, [(1, 1)]), (0, [(9, 1)])]), (0, [], [(0, [(3, 1)])]), (0, [], [(-3, [(3, -3), (9, 1)])]), (2, [], [(0, [(0, 1)]), (0, [(10, 1)])]), (1, [46], [(0, [(1, 1)])]), (0, [], [(-1, [(3, 1), (6, -1)])]), (0, [], [(-1, [(3, 1), (7, -1)])]), (0, [], [(-1, [(3, 1), (8, -1)])]), (0, [], [(4, [(4, -1)])]), (0, [], [(-4, [(4, 1)])]), (0, [], [(-1, [(6, -1)])]), (4, [45, 1], [(0, [(0, 1)]), (0, [(7, 1)]), (0, [(11, 1)])]), (0, [], [(0, [(7, 1)])]), (0, [], [(-1, [(7, -1), (10, 1)])]), (0, [], [(0, [(5, -1), (11, 2)])]), (0, [], [(-1, [(8, -1)])])], [(22, [], [(0, [(0, 1)]), (0, [(1, 1)]), (0, [(2, 1)]), (0, [(3, 1)]), (0, [(4, 1)]), (0, [(5, 1)])])])
theorem q_l43_ok : ∀ (g : Int → Int → Int) (ln : Int → Int) (kf : Int → Nat) (ρ : List Int), sv_BOk ρ q_l43.1 → (∀ f ∈ q_l43.2.1, sv_FQk q_Ks q_Q g ln kf ρ f) → ∀ f ∈ q_l43.2.2, sv_FQk q_Ks q_Q g ln kf ρ f := by
  intro g ln kf ρ hb hf
  obtain ⟨hl, hb⟩ := hb
  obtain ⟨xb, r0, rfl, l0⟩ := sv_lens hl
  obtain ⟨xm, r1, rfl, l1⟩ := sv_lens l0
  obtain ⟨xg, r2, rfl, l2⟩ := sv_lens l1
  obtain ⟨xv, r3, rfl, l3⟩ := sv_lens l2
  obtain ⟨xk, r4, rfl, l4⟩ := sv_lens l3
  obtain ⟨xy, r5, rfl, l5⟩ := sv_lens l4
  obtain ⟨xc, r6, rfl, l6⟩ := sv_lens l5
  obtain ⟨xd, r7, rfl, l7⟩ := sv_lens l6
  obtain ⟨xe, r8, rfl, l8⟩ := sv_lens l7
  obtain ⟨xNM, r9, rfl, l9⟩ := sv_lens l8
  obtain ⟨xNB, r10, rfl, l10⟩ := sv_lens l9
  obtain ⟨xdb, r11, rfl, l11⟩ := sv_lens l10
  obtain rfl := sv_len0 l11
  clear l0 l1 l2 l3 l4 l5 l6 l7 l8 l9 l10 l11 hl
  have bb : 0 ≤ xb := (hb 0 _ _ rfl rfl).1
  have bm : 0 ≤ xm := (hb 1 _ _ rfl rfl).1
  have bg : 0 ≤ xg := (hb 2 _ _ rfl rfl).1
  clear hb
  have h0 := hf _ (List.mem_of_getElem? (i := 0) rfl)
  simp [sv_FQk, sv_FQ, sv_evs, sv_ev, sv_evT, sv_nth, sv_adq, sv_gs] at h0
  have h1 := hf _ (List.mem_of_getElem? (i := 1) rfl)
  simp [sv_FQk, sv_FQ, sv_evs, sv_ev, sv_evT, sv_nth, sv_adq, sv_gs] at h1
  have h2 := hf _ (List.mem_of_getElem? (i := 2) rfl)
  simp [sv_FQk, sv_FQ, sv_evs, sv_ev, sv_evT, sv_nth, sv_adq, sv_gs] at h2
  have h3 := hf _ (List.mem_of_getElem? (i := 3) rfl)
  simp [sv_FQk, sv_FQ, sv_evs, sv_ev, sv_evT, sv_nth, sv_adq, sv_gs] at h3
  have h4 := hf _ (List.mem_of_getElem? (i := 4) rfl)
  simp [sv_FQk, sv_FQ, sv_evs, sv_ev, sv_evT, sv_nth, sv_adq, sv_gs] at h4
  have h5 := hf _ (List.mem_of_getElem? (i := 5) rfl)
  simp [sv_FQk, sv_FQ, sv_evs, sv_ev, sv_evT, sv_nth, sv_adq, sv_gs] at h5
  have h6 := hf _ (List.mem_of_getElem? (i := 6) rfl)
  simp [sv_FQk, sv_FQ, sv_evs, sv_ev, sv_evT, sv_nth, sv_adq, sv_gs] at h6
  have h7 := hf _ (List.mem_of_getElem? (i := 7) rfl)
  simp [sv_FQk, sv_FQ, sv_evs, sv_ev, sv_evT, sv_nth, sv_adq, sv_gs] at h7
  have h8 := hf _ (List.mem_of_getElem? (i := 8) rfl)
  simp [sv_FQk, sv_FQ, sv_evs, sv_ev, sv_evT, sv_nth, sv_adq, sv_gs] at h8
  have h9 := hf _ (List.mem_of_getElem? (i := 9) rfl)
  simp [sv_FQk, sv_FQ, sv_evs, sv_ev, sv_evT, sv_nth, sv_adq, sv_gs] at h9
  have h10 := hf _ (List.mem_of_getElem? (i := 10) rfl)
  simp [sv_FQk, sv_FQ, sv_evs, sv_ev, sv_evT, sv_nth, sv_adq, sv_gs] at h10
  have h11 := hf _ (List.mem_of_getElem? (i := 11) rfl)
  simp [sv_FQk, sv_FQ, sv_evs, sv_ev, sv_evT, sv_nth, sv_adq, sv_gs] at h11
  have h12 := hf _ (List.mem_of_getElem? (i := 12) rfl)
  simp [sv_FQk, sv_FQ, sv_evs, sv_ev, sv_evT, sv_nth, sv_adq, sv_gs] at h12
  have h13 := hf _ (List.mem_of_getElem? (i := 13) rfl)
  simp [sv_FQk, sv_FQ, sv_evs, sv_ev, sv_evT, sv_nth, sv_adq, sv_gs] at h13
  have h14 := hf _ (List.mem_of_getElem? (i := 14) rfl)
  simp [sv_FQk, sv_FQ, sv_evs, sv_ev, sv_evT, sv_nth, sv_adq, sv_gs] at h14
  have h15 := hf _ (List.mem_of_getElem? (i := 15) rfl)
  simp [sv_FQk, sv_FQ, sv_evs, sv_ev, sv_evT, sv_nth, sv_adq, sv_gs] at h15
  have h16 := hf _ (List.mem_of_getElem? (i := 16) rfl)
  simp [sv_FQk, sv_FQ, sv_evs, sv_ev, sv_evT, sv_nth, sv_adq, sv_gs] at h16
  have h17 := hf _ (List.mem_of_getElem? (i := 17) rfl)
  simp [sv_FQk, sv_FQ, sv_evs, sv_ev, sv_evT, sv_nth, sv_adq, sv_gs] at h17
  have h18 := hf _ (List.mem_of_getElem? (i := 18) rfl)
  simp [sv_FQk, sv_FQ, sv_evs, sv_ev, sv_evT, sv_nth, sv_adq, sv_gs] at h18
  have h19 := hf _ (List.mem_of_getElem? (i := 19) rfl)
  simp [sv_FQk, sv_FQ, sv_evs, sv_ev, sv_evT, sv_nth, sv_adq, sv_gs] at h19
  have h20 := hf _ (List.mem_of_getElem? (i := 20) rfl)
  simp [sv_FQk, sv_FQ, sv_evs, sv_ev, sv_evT, sv_nth, sv_adq, sv_gs] at h20
  clear hf
  have Kb : kf xb = 45 := by omega
  have Kg : kf xg = 44 := by omega
  replace h2 := h2 bm (by omega) (by have := h5 bm; omega)
  replace h3 := h3 bm (by omega) (by have := h5 bm; omega)
  replace h4 := h4 bm (by omega) (by have := h5 bm; omega)
  have Km : kf xm = 46 := by omega
  replace h16 := h16 bb (by omega) (by have := h8 bb; omega)
  intro f hf
  have hf : f ∈ [(22, [], [(0, [(0, 1)]), (0, [(1, 1)]), (0, [(2, 1)]), (0, [(3, 1)]), (0, [(4, 1)]), (0, [(5, 1)])])] := hf
  simp only [List.mem_cons, List.not_mem_nil, or_false] at hf
  subst hf
  · simp [sv_FQk, sv_FQ, sv_evs, sv_ev, sv_evT, sv_nth, sv_adq, sv_gs, q_Ks_6, q_Q_6]
    refine ⟨⟨⟨bb, Kb⟩, ⟨bm, Km⟩, ⟨bg, Kg⟩⟩, ?_⟩
    rw [sv_Qvok_iff]
    unfold sv_vr
    rw [h2, h3, h4]
    omega
-- vok_4_011
def q_l44 : SvM := ([(0, none), (0, none), (0, none), (-1180591620717411303424, none), (-1180591620717411303424, none), (-1180591620717411303424, none), (-1180591620717411303424, none), (-1180591620717411303424, none), (-1180591620717411303424, none), (-1180591620717411303424, none), (-1180591620717411303424, none), (-1180591620717411303424, none), (-1180591620717411303424, none)], [(1, [45], [(0, [(0, 1)])]), (1, [44], [(0, [(2, 1)])]), (4, [46, 1], [(0, [(1, 1)]), (0, [(3, 3)]), (0, [(6, 1)])]), (4, [46, 1], [(0, [(1, 1)]), (1, [(3, 3)]), (0, [(7, 1)])]), (4, [46, 1], [(0, [(1, 1)]), (2, [(3, 3)]), (0, [(8, 1)])]), (2, [], [(0, [(1, 1)]), (0, [(9, 1)])]), (0, [], [(0, [(3, 1)])]), (0, [], [(-3, [(3, -3), (9, 1)])]), (2, [], [(0, [(0, 1)]), (0, [(10, 1)])]), (1, [46], [(0, [(1, 1)])]), (0, [], [(-1, [(3, 1), (6, -1)])]), (0, [], [(-1, [(3, 1), (7, -1)])]), (0, [], [(-1, [(3, 1), (8, -1)])]), (0, [], [(4, [(4, -1)])]), (0, [], [(-4, [(4, 1)])]), (0, [], [(-1, [(6, -1)])]), (4, [45, 1], [(0, [(0, 1)]), (0, [(7, 1)]), (0, [(11, 1)])]), (0, [], [(0, [(7, 1)])]), (0, [], [(-1, [(7, -1), (10, 1)])]), (0, [], [(0, [(5, -1), (11, 2)])]), (4, [45, 1], [(0, [(0, 1)]), (0, [(8, 1)]), (0, [(12, 1)])]), (0, [], [(0, [(8, 1)])]), (0, [], [(-1, [(8, -1), (10, 1)])]), (0, [], [(0, [(5, -1), (12, 2)])])], [(22, [], [(0, [(0, 1)]), (0, [(1, 1)]), (0, [(2, 1)]), (0, [(3, 1)]), (0, [(4, 1)]), (0, [(5, 1)])])])
theorem q_l44_ok : ∀ (g : Int → Int → Int) (ln : Int → Int) (kf : Int → Nat) (ρ : List Int), sv_BOk ρ q_l44.1 → (∀ f ∈ q_l44.2.1, sv_FQk q_Ks q_Q g ln kf ρ f) → ∀ f ∈ q_l44.2.2, sv_FQk q_Ks q_Q g ln kf ρ f := by
  intro g ln kf ρ hb hf
  obtain ⟨hl, hb⟩ := hb
  obtain ⟨xb, r0, rfl, l0⟩ := sv_lens hl
  obtain ⟨xm, r1, rfl, l1⟩ := sv_lens l0
  obtain ⟨xg, r2, rfl, l2⟩ := sv_lens l1
  obtain ⟨xv, r3, rfl, l3⟩ := sv_lens l2
  obtain ⟨xk, r4, rfl, l4⟩ := sv_lens l3
  obtain ⟨xy, r5, rfl, l5⟩ := sv_lens l4
  obtain ⟨xc, r6, rfl, l6⟩ := sv_lens l5
  obtain ⟨xd, r7, rfl, l7⟩ := sv_lens l6
  obtain ⟨xe, r8, rfl, l8⟩ := sv_lens l7
  obtain ⟨xNM, r9, rfl, l9⟩ := sv_lens l8
  obtain ⟨xNB, r10, rfl, l10⟩ := sv_lens l9
  obtain ⟨xdb, r11, rfl, l11⟩ := sv_lens l10
  obtain ⟨xeb, r12, rfl, l12⟩ := sv_lens l11
  obtain rfl := sv_len0 l12
  clear l0 l1 l2 l3 l4 l5 l6 l7 l8 l9 l10 l11 l12 hl
  have bb : 0 ≤ xb := (hb 0 _ _ rfl rfl).1
  have bm : 0 ≤ xm := (hb 1 _ _ rfl rfl).1
  have bg : 0 ≤ xg := (hb 2 _ _ rfl rfl).1
  clear hb
  have h0 := hf _ (List.mem_of_getElem? (i := 0) rfl)
  simp [sv_FQk, sv_FQ, sv_evs, sv_ev, sv_evT, sv_nth, sv_adq, sv_gs] at h0
  have h1 := hf _ (List.mem_of_getElem? (i := 1) rfl)
  simp [sv_FQk, sv_FQ, sv_evs, sv_ev, sv_evT, sv_nth, sv_adq, sv_gs] at h1
  have h2 := hf _ (List.mem_of_getElem? (i := 2) rfl)
  simp [sv_FQk, sv_FQ, sv_evs, sv_ev, sv_evT, sv_nth, sv_adq, sv_gs] at h2
  have h3 := hf _ (List.mem_of_getElem? (i := 3) rfl)
  simp [sv_FQk, sv_FQ, sv_evs, sv_ev, sv_evT, sv_nth, sv_adq, sv_gs] at h3
  have h4 := hf _ (List.mem_of_getElem? (i := 4) rfl)
  simp [sv_FQk, sv_FQ, sv_evs, sv_ev, sv_evT, sv_nth, sv_adq, sv_gs] at h4
  have h5 := hf _ (List.mem_of_getElem? (i := 5) rfl)
  simp [sv_FQk, sv_FQ, sv_evs, sv_ev, sv_evT, sv_nth, sv_adq, sv_gs] at h5
  have h6 := hf _ (List.mem_of_getElem? (i := 6) rfl)
  simp [sv_FQk, sv_FQ, sv_evs, sv_ev, sv_evT, sv_nth, sv_adq, sv_gs] at h6
  have h7 := hf _ (List.mem_of_getElem? (i := 7) rfl)
  simp [sv_FQk, sv_FQ, sv_evs, sv_ev, sv_evT, sv_nth, sv_adq, sv_gs] at h7
  have h8 := hf _ (List.mem_of_getElem? (i := 8) rfl)
  simp [sv_FQk, sv_FQ, sv_evs, sv_ev, sv_evT, sv_nth, sv_adq, sv_gs] at h8
  have h9 := hf _ (List.mem_of_getElem? (i := 9) rfl)
  simp [sv_FQk, sv_FQ, sv_evs, sv_ev, sv_evT, sv_nth, sv_adq, sv_gs] at h9
  have h10 := hf _ (List.mem_of_getElem? (i := 10) rfl)
  simp [sv_FQk, sv_FQ, sv_evs, sv_ev, sv_evT, sv_nth, sv_adq, sv_gs] at h10
  have h11 := hf _ (List.mem_of_getElem? (i := 11) rfl)
  simp [sv_FQk, sv_FQ, sv_evs, sv_ev, sv_evT, sv_nth, sv_adq, sv_gs] at h11
  have h12 := hf _ (List.mem_of_getElem? (i := 12) rfl)
  simp [sv_FQk, sv_FQ, sv_evs, sv_ev, sv_evT, sv_nth, sv_adq, sv_gs] at h12
  have h13 := hf _ (List.mem_of_getElem? (i := 13) rfl)
  simp [sv_FQk, sv_FQ, sv_evs, sv_ev, sv_evT, sv_nth, sv_adq, sv_gs] at h13
  have h14 := hf _ (List.mem_of_getElem? (i := 14) rfl)
  simp [sv_FQk, sv_FQ, sv_evs, sv_ev, sv_evT, sv_nth, sv_adq, sv_gs] at h14
  have h15 := hf _ (List.mem_of_getElem? (i := 15) rfl)
  simp [sv_FQk, sv_FQ, sv_evs, sv_ev, sv_evT, sv_nth, sv_adq, sv_gs] at h15
  have h16 := hf _ (List.mem_of_getElem? (i := 16) rfl)
  simp [sv_FQk, sv_FQ, sv_evs, sv_ev, sv_evT, sv_nth, sv_adq, sv_gs] at h16
  have h17 := hf _ (List.mem_of_getElem? (i := 17) rfl)
  simp [sv_FQk, sv_FQ, sv_evs, sv_ev, sv_evT, sv_nth, sv_adq, sv_gs] at h17
  have h18 := hf _ (List.mem_of_getElem? (i := 18) rfl)
  simp [sv_FQk, sv_FQ, sv_evs, sv_ev, sv_evT, sv_nth, sv_adq, sv_gs] at h18
  have h19 := hf _ (List.mem_of_getElem? (i := 19) rfl)
  simp [sv_FQk, sv_FQ, sv_evs, sv_ev, sv_evT, sv_nth, sv_adq, sv_gs] at h19
  have h20 := hf _ (List.mem_of_getElem? (i := 20) rfl)
  simp [sv_FQk, sv_FQ, sv_evs, sv_ev, sv_evT, sv_nth, sv_adq, sv_gs] at h20
  have h21 := hf _ (List.mem_of_getElem? (i := 21) rfl)
  simp [sv_FQk, sv_FQ, sv_evs, sv_ev, sv_evT, sv_nth, sv_adq, sv_gs] at h21
  have h22 := hf _ (List.mem_of_getElem? (i := 22) rfl)
  simp [sv_FQk, sv_FQ, sv_evs, sv_ev, sv_evT, sv_nth, sv_adq, sv_gs] at h22
  have h23 := hf _ (List.mem_of_getElem? (i := 23) rfl)
  simp [sv_FQk, sv_FQ, sv_evs, sv_ev, sv_evT, sv_nth, sv_adq, sv_gs] at h23
  clear hf
  have Kb : kf xb = 45 := by omega
  have Kg : kf xg = 44 := by omega
  replace h2 := h2 bm (by omega) (by have := h5 bm; omega)
  replace h3 := h3 bm (by omega) (by have := h5 bm; omega)
  replace h4 := h4 bm (by omega) (by have := h5 bm; omega)
  have Km : kf xm = 46 := by omega
  replace h16 := h16 bb (by omega) (by have := h8 bb; omega)
  replace h20 := h20 bb (by omega) (by have := h8 bb; omega)
  intro f hf
  have hf : f ∈ [(22, [], [(0, [(0, 1)]), (0, [(1, 1)]), (0, [(2, 1)]), (0, [(3, 1)]), (0, [(4, 1)]), (0, [(5, 1)])])] := hf
  simp only [List.mem_cons, List.not_mem_nil, or_false] at hf
  subst hf
  · simp [sv_FQk, sv_FQ, sv_evs, sv_ev, sv_evT, sv_nth, sv_adq, sv_gs, q_Ks_6, q_Q_6]
    refine ⟨⟨⟨bb, Kb⟩, ⟨bm, Km⟩, ⟨bg, Kg⟩⟩, ?_⟩
    rw [sv_Qvok_iff]
    unfold sv_vr
    rw [h2, h3, h4]
    omega
-- vok_4_100
def q_l45 : SvM := ([(0, none), (0, none), (0, none), (-1180591620717411303424, none), (-1180591620717411303424, none), (-1180591620717411303424, none), (-1180591620717411303424, none), (-1180591620717411303424, none), (-1180591620717411303424, none), (-1180591620717411303424, none), (-1180591620717411303424, none), (-1180591620717411303424, none)], [(1, [45], [(0, [(0, 1)])]), (1, [44], [(0, [(2, 1)])]), (4, [46, 1], [(0, [(1, 1)]), (0, [(3, 3)]), (0, [(6, 1)])]), (4, [46, 1], [(0, [(1, 1)]), (1, [(3, 3)]), (0, [(7, 1)])]), (4, [46, 1], [(0, [(1, 1)]), (2, [(3, 3)]), (0, [(8, 1)])]), (2, [], [(0, [(1, 1)]), (0, [(9, 1)])]), (0, [], [(0, [(3, 1)])]), (0, [], [(-3, [(3, -3), (9, 1)])]), (2, [], [(0, [(0, 1)]), (0, [(10, 1)])]), (1, [46], [(0, [(1, 1)])]), (0, [], [(-1, [(3, 1), (6, -1)])]), (0, [], [(-1, [(3, 1), (7, -1)])]), (0, [], [(-1, [(3, 1), (8, -1)])]), (0, [], [(4, [(4, -1)])]), (0, [], [(-4, [(4, 1)])]), (4, [45, 1], [(0, [(0, 1)]), (0, [(6, 1)]), (0, [(11, 1)])]), (0, [], [(0, [(6, 1)])]), (0, [], [(-1, [(6, -1), (10, 1)])]), (0, [], [(0, [(5, -1), (11, 2)])]), (0, [], [(-1, [(7, -1)])]), (0, [], [(-1, [(8, -1)])])], [(22, [], [(0, [(0, 1)]), (0, [(1, 1)]), (0, [(2, 1)]), (0, [(3, 1)]), (0, [(4, 1)]), (0, [(5, 1)])])])
theorem q_l45_ok : ∀ (g : Int → Int → Int) (ln : Int → Int) (kf : Int → Nat) (ρ : List Int), sv_BOk ρ q_l45.1 → (∀ f ∈ q_l45.2.1, sv_FQk q_Ks q_Q g ln kf ρ f) → ∀ f ∈ q_l45.2.2, sv_FQk q_Ks q_Q g ln kf ρ f := by
  intro g ln kf ρ hb hf
  obtain ⟨hl, hb⟩ := hb
  obtain ⟨xb, r0, rfl, l0⟩ := sv_lens hl
  obtain ⟨xm, r1, rfl, l1⟩ := sv_lens l0
  obtain ⟨xg, r2, rfl, l2⟩ := sv_lens l1
  obtain ⟨xv, r3, rfl, l3⟩ := sv_lens l2
  obtain ⟨xk, r4, rfl, l4⟩ := sv_lens l3
  obtain ⟨xy, r5, rfl, l5⟩ := sv_lens l4
  obtain ⟨xc, r6, rfl, l6⟩ := sv_lens l5
  obtain ⟨xd, r7, rfl, l7⟩ := sv_lens l6
  obtain ⟨xe, r8, rfl, l8⟩ := sv_lens l7
  obtain ⟨xNM, r9, rfl, l9⟩ := sv_lens l8
  obtain ⟨xNB, r10, rfl, l10⟩ := sv_lens l9
  obtain ⟨xcb, r11, rfl, l11⟩ := sv_lens l10
  obtain rfl := sv_len0 l11
  clear l0 l1 l2 l3 l4 l5 l6 l7 l8 l9 l10 l11 hl
  have bb : 0 ≤ xb := (hb 0 _ _ rfl rfl).1
  have bm : 0 ≤ xm := (hb 1 _ _ rfl rfl).1
  have bg : 0 ≤ xg := (hb 2 _ _ rfl rfl).1
  clear hb
  have h0 := hf _ (List.mem_of_getElem? (i := 0) rfl)
  simp [sv_FQk, sv_FQ, sv_evs, sv_ev, sv_evT, sv_nth, sv_adq, sv_gs] at h0
  have h1 := hf _ (List.mem_of_getElem? (i := 1) rfl)
  simp [sv_FQk, sv_FQ, sv_evs, sv_ev, sv_evT, sv_nth, sv_adq, sv_gs] at h1
  have h2 := hf _ (List.mem_of_getElem? (i := 2) rfl)
  simp [sv_FQk, sv_FQ, sv_evs, sv_ev, sv_evT, sv_nth, sv_adq, sv_gs] at h2
  have h3 := hf _ (List.mem_of_getElem? (i := 3) rfl)
  simp [sv_FQk, sv_FQ, sv_evs, sv_ev, sv_evT, sv_nth, sv_adq, sv_gs] at h3
  have h4 := hf _ (List.mem_of_getElem? (i := 4) rfl)
  simp [sv_FQk, sv_FQ, sv_evs, sv_ev, sv_evT, sv_nth, sv_adq, sv_gs] at h4
  have h5 := hf _ (List.mem_of_getElem? (i := 5) rfl)
  simp [sv_FQk, sv_FQ, sv_evs, sv_ev, sv_evT, sv_nth, sv_adq, sv_gs] at h5
  have h6 := hf _ (List.mem_of_getElem? (i := 6) rfl)
  simp [sv_FQk, sv_FQ, sv_evs, sv_ev, sv_evT, sv_nth, sv_adq, sv_gs] at h6
  have h7 := hf _ (List.mem_of_getElem? (i := 7) rfl)
  simp [sv_FQk, sv_FQ, sv_evs, sv_ev, sv_evT, sv_nth, sv_adq, sv_gs] at h7
  have h8 := hf _ (List.mem_of_getElem? (i := 8) rfl)
  simp [sv_FQk, sv_FQ, sv_evs, sv_ev, sv_evT, sv_nth, sv_adq, sv_gs] at h8
  have h9 := hf _ (List.mem_of_getElem? (i := 9) rfl)
  simp [sv_FQk, sv_FQ, sv_evs, sv_ev, sv_evT, sv_nth, sv_adq, sv_gs] at h9
  have h10 := hf _ (List.mem_of_getElem? (i := 10) rfl)
  simp [sv_FQk, sv_FQ, sv_evs, sv_ev, sv_evT, sv_nth, sv_adq, sv_gs] at h10
  have h11 := hf _ (List.mem_of_getElem? (i := 11) rfl)
  simp [sv_FQk, sv_FQ, sv_evs, sv_ev, sv_evT, sv_nth, sv_adq, sv_gs] at h11
  have h12 := hf _ (List.mem_of_getElem? (i := 12) rfl)
  simp [sv_FQk, sv_FQ, sv_evs, sv_ev, sv_evT, sv_nth, sv_adq, sv_gs] at h12
  have h13 := hf _ (List.mem_of_getElem? (i := 13) rfl)
  simp [sv_FQk, sv_FQ, sv_evs, sv_ev, sv_evT, sv_nth, sv_adq, sv_gs] at h13
  have h14 := hf _ (List.mem_of_getElem? (i := 14) rfl)
  simp [sv_FQk, sv_FQ, sv_evs, sv_ev, sv_evT, sv_nth, sv_adq, sv_gs] at h14
  have h15 := hf _ (List.mem_of_getElem? (i := 15) rfl)
  simp [sv_FQk, sv_FQ, sv_evs, sv_ev, sv_evT, sv_nth, sv_adq, sv_gs] at h15
  have h16 := hf _ (List.mem_of_getElem? (i := 16) rfl)
  simp [sv_FQk, sv_FQ, sv_evs, sv_ev, sv_evT, sv_nth, sv_adq, sv_gs] at h16
  have h17 := hf _ (List.mem_of_getElem? (i := 17) rfl)
  simp [sv_FQk, sv_FQ, sv_evs, sv_ev, sv_evT, sv_nth, sv_adq, sv_gs] at h17
  have h18 := hf _ (List.mem_of_getElem? (i := 18) rfl)
  simp [sv_FQk, sv_FQ, sv_evs, sv_ev, sv_evT, sv_nth, sv_adq, sv_gs] at h18
  have h19 := hf _ (List.mem_of_getElem? (i := 19) rfl)
  simp [sv_FQk, sv_FQ, sv_evs, sv_ev, sv_evT, sv_nth, sv_adq, sv_gs] at h19
  have h20 := hf _ (List.mem_of_getElem? (i := 20) rfl)
  simp [sv_FQk, sv_FQ, sv_evs, sv_ev, sv_evT, sv_nth, sv_adq, sv_gs] at h20
  clear hf
  have Kb : kf xb = 45 := by omega
  have Kg : kf xg = 44 := by omega
  replace h2 := h2 bm (by omega) (by have := h5 bm; omega)
  replace h3 := h3 bm (by omega) (by have := h5 bm; omega)
  replace h4 := h4 bm (by omega) (by have := h5 bm; omega)
  have Km : kf xm = 46 := by omega
  replace h15 := h15 bb (by omega) (by have := h8 bb; omega)
  intro f hf
  have hf : f ∈ [(22, [], [(0, [(0, 1)]), (0, [(1, 1)]), (0, [(2, 1)]), (0, [(3, 1)]), (0, [(4, 1)]), (0, [(5, 1)])])] := hf
  simp only [List.mem_cons, List.not_mem_nil, or_false] at hf
  subst hf
  · simp [sv_FQk, sv_FQ, sv_evs, sv_ev, sv_evT, sv_nth, sv_adq, sv_gs, q_Ks_6, q_Q_6]
    refine ⟨⟨⟨bb, Kb⟩, ⟨bm, Km⟩, ⟨bg, Kg⟩⟩, ?_⟩
    rw [sv_Qvok_iff]
    unfold sv_vr
    rw [h2, h3, h4]
    omega
-- vok_4_101
def q_l46 : SvM := ([(0, none), (0, none), (0, none), (-1180591620717411303424, none), (-1180591620717411303424, none), (-1180591620717411303424, none), (-1180591620717411303424, none), (-1180591620717411303424, none), (-1180591620717411303424, none), (-1180591620717411303424, none), (-1180591620717411303424, none), (-1180591620717411303424, none), (-1180591620717411303424, none)], [(1, [45], [(0, [(0, 1)])]), (1, [44], [(0, [(2, 1)])]), (4, [46, 1], [(0, [(1, 1)]), (0, [(3, 3)]), (0, [(6, 1)])]), (4, [46, 1], [(0, [(1, 1)]), (1, [(3, 3)]), (0, [(7, 1)])]), (4, [46, 1], [(0, [(1, 1)]), (2, [(3, 3)]), (0, [(8, 1)])]), (2, [], [(0, [(1, 1)]), (0, [(9, 1)])]), (0, [], [(0, [(3, 1)])]), (0, [], [(-3, [(3, -3), (9, 1)])]), (2, [], [(0, [(0, 1)]), (0, [(10, 1)])]), (1, [46], [(0, [(1, 1)])]), (0, [], [(-1, [(3, 1), (6, -1)])]), (0, [], [(-1, [(3, 1), (7, -1)])]), (0, [], [(-1, [(3, 1), (8, -1)])]), (0, [], [(4, [(4, -1)])]), (0, [], [(-4, [(4, 1)])]), (4, [45, 1], [(0, [(0, 1)]), (0, [(6, 1)]), (0, [(11, 1)])]), (0, [], [(0, [(6, 1)])]), (0, [], [(-1, [(6, -1), (10, 1)])]), (0, [], [(0, [(5, -1), (11, 2)])]), (0, [], [(-1, [(7, -1)])]), (4, [45, 1], [(0, [(0, 1)]), (0, [(8, 1)]), (0, [(12, 1)])]), (0, [], [(0, [(8, 1)])]), (0, [], [(-1, [(8, -1), (10, 1)])]), (0, [], [(0, [(5, -1), (12, 2)])])], [(22, [], [(0, [(0, 1)]), (0, [(1, 1)]), (0, [(2, 1)]), (0, [(3, 1)]), (0, [(4, 1)]), (0, [(5, 1)])])])
theorem q_l46_ok : ∀ (g : Int → Int → Int) (ln : Int → Int) (kf : Int → Nat) (ρ : List Int), sv_BOk ρ q_l46.1 → (∀ f ∈ q_l46.2.1, sv_FQk q_Ks q_Q g ln kf ρ f) → ∀ f ∈ q_l46.2.2, sv_FQk q_Ks q_Q g ln kf ρ f := by
  intro g ln kf ρ hb hf
  obtain ⟨hl, hb⟩ := hb
  obtain ⟨xb, r0, rfl, l0⟩ := sv_lens hl
  obtain ⟨xm, r1, rfl, l1⟩ := sv_lens l0
  obtain ⟨xg, r2, rfl, l2⟩ := sv_lens l1
  obtain ⟨xv, r3, rfl, l3⟩ := sv_lens l2
  obtain ⟨xk, r4, rfl, l4⟩ := sv_lens l3
  obtain ⟨xy, r5, rfl, l5⟩ := sv_lens l4
  obtain ⟨xc, r6, rfl, l6⟩ := sv_lens l5
  obtain ⟨xd, r7, rfl, l7⟩ := sv_lens l6
  obtain ⟨xe, r8, rfl, l8⟩ := sv_lens l7
  obtain ⟨xNM, r9, rfl, l9⟩ := sv_lens l8
  obtain ⟨xNB, r10, rfl, l10⟩ := sv_lens l9
  obtain ⟨xcb, r11, rfl, l11⟩ := sv_lens l10
  obtain ⟨xeb, r12, rfl, l12⟩ := sv_lens l11
  obtain rfl := sv_len0 l12
  clear l0 l1 l2 l3 l4 l5 l6 l7 l8 l9 l10 l11 l12 hl
  have bb : 0 ≤ xb := (hb 0 _ _ rfl rfl).1
  have bm : 0 ≤ xm := (hb 1 _ _ rfl rfl).1
  have bg : 0 ≤ xg := (hb 2 _ _ rfl rfl).1
  clear hb
  have h0 := hf _ (List.mem_of_getElem? (i := 0) rfl)
  simp [sv_FQk, sv_FQ, sv_evs, sv_ev, sv_evT, sv_nth, sv_adq, sv_gs] at h0
  have h1 := hf _ (List.mem_of_getElem? (i := 1) rfl)
  simp [sv_FQk, sv_FQ, sv_evs, sv_ev, sv_evT, sv_nth, sv_adq, sv_gs] at h1
  have h2 := hf _ (List.mem_of_getElem? (i := 2) rfl)
  simp [sv_FQk, sv_FQ, sv_evs, sv_ev, sv_evT, sv_nth, sv_adq, sv_gs] at h2
  have h3 := hf _ (List.mem_of_getElem? (i := 3) rfl)
  simp [sv_FQk, sv_FQ, sv_evs, sv_ev, sv_evT, sv_nth, sv_adq, sv_gs] at h3
  have h4 := hf _ (List.mem_of_getElem? (i := 4) rfl)
  simp [sv_FQk, sv_FQ, sv_evs, sv_ev, sv_evT, sv_nth, sv_adq, sv_gs] at h4
  have h5 := hf _ (List.mem_of_getElem? (i := 5) rfl)
  simp [sv_FQk, sv_FQ, sv_evs, sv_ev, sv_evT, sv_nth, sv_adq, sv_gs] at h5
  have h6 := hf _ (List.mem_of_getElem? (i := 6) rfl)
  simp [sv_FQk, sv_FQ, sv_evs, sv_ev, sv_evT, sv_nth, sv_adq, sv_gs] at h6
  have h7 := hf _ (List.mem_of_getElem? (i := 7) rfl)
  simp [sv_FQk, sv_FQ, sv_evs, sv_ev, sv_evT, sv_nth, sv_adq, sv_gs] at h7
  have h8 := hf _ (List.mem_of_getElem? (i := 8) rfl)
  simp [sv_FQk, sv_FQ, sv_evs, sv_ev, sv_evT, sv_nth, sv_adq, sv_gs] at h8
  have h9 := hf _ (List.mem_of_getElem? (i := 9) rfl)
  simp [sv_FQk, sv_FQ, sv_evs, sv_ev, sv_evT, sv_nth, sv_adq, sv_gs] at h9
  have h10 := hf _ (List.mem_of_getElem? (i := 10) rfl)
  simp [sv_FQk, sv_FQ, sv_evs, sv_ev, sv_evT, sv_nth, sv_adq, sv_gs] at h10
  have h11 := hf _ (List.mem_of_getElem? (i := 11) rfl)
  simp [sv_FQk, sv_FQ, sv_evs, sv_ev, sv_evT, sv_nth, sv_adq, sv_gs] at h11
  have h12 := hf _ (List.mem_of_getElem? (i := 12) rfl)
  simp [sv_FQk, sv_FQ, sv_evs, sv_ev, sv_evT, sv_nth, sv_adq, sv_gs] at h12
  have h13 := hf _ (List.mem_of_getElem? (i := 13) rfl)
  simp [sv_FQk, sv_FQ, sv_evs, sv_ev, sv_evT, sv_nth, sv_adq, sv_gs] at h13
  have h14 := hf _ (List.mem_of_getElem? (i := 14) rfl)
  simp [sv_FQk, sv_FQ, sv_evs, sv_ev, sv_evT, sv_nth, sv_adq, sv_gs] at h14
  have h15 := hf _ (List.mem_of_getElem? (i := 15) rfl)
  simp [sv_FQk, sv_FQ, sv_evs, sv_ev, sv_evT, sv_nth, sv_adq, sv_gs] at h15
  have h16 := hf _ (List.mem_of_getElem? (i := 16) rfl)
  simp [sv_FQk, sv_FQ, sv_evs, sv_ev, sv_evT, sv_nth, sv_adq, sv_gs] at h16
  have h17 := hf _ (List.mem_of_getElem? (i := 17) rfl)
  simp [sv_FQk, sv_FQ, sv_evs, sv_ev, sv_evT, sv_nth, sv_adq, sv_gs] at h17
  have h18 := hf _ (List.mem_of_getElem? (i := 18) rfl)
  simp [sv_FQk, sv_FQ, sv_evs, sv_ev, sv_evT, sv_nth, sv_adq, sv_gs] at h18
  have h19 := hf _ (List.mem_of_getElem? (i := 19) rfl)
  simp [sv_FQk, sv_FQ, sv_evs, sv_ev, sv_evT, sv_nth, sv_adq, sv_gs] at h19
  have h20 := hf _ (List.mem_of_getElem? (i := 20) rfl)
  simp [sv_FQk, sv_FQ, sv_evs, sv_ev, sv_evT, sv_nth, sv_adq, sv_gs] at h20
  have h21 := hf _ (List.mem_of_getElem? (i := 21) rfl)
  simp [sv_FQk, sv_FQ, sv_evs, sv_ev, sv_evT, sv_nth, sv_adq, sv_gs] at h21
  have h22 := hf _ (List.mem_of_getElem? (i := 22) rfl)
  simp [sv_FQk, sv_FQ, sv_evs, sv_ev, sv_evT, sv_nth, sv_adq, sv_gs] at h22
  have h23 := hf _ (List.mem_of_getElem? (i := 23) rfl)
  simp [sv_FQk, sv_FQ, sv_evs, sv_ev, sv_evT, sv_nth, sv_adq, sv_gs] at h23
  clear hf
  have Kb : kf xb = 45 := by omega
  have Kg : kf xg = 44 := by omega
  replace h2 := h2 bm (by omega) (by have := h5 bm; omega)
  replace h3 := h3 bm (by omega) (by have := h5 bm; omega)
  replace h4 := h4 bm (by omega) (by have := h5 bm; omega)
  have Km : kf xm = 46 := by omega
  replace h15 := h15 bb (by omega) (by have := h8 bb; omega)
  replace h20 := h20 bb (by omega) (by have := h8 bb; omega)
  intro f hf
  have hf : f ∈ [(22, [], [(0, [(0, 1)]), (0, [(1, 1)]), (0, [(2, 1)]), (0, [(3, 1)]), (0, [(4, 1)]), (0, [(5, 1)])])] := hf
  simp only [List.mem_cons, List.not_mem_nil, or_false] at hf
  subst hf
  · simp [sv_FQk, sv_FQ, sv_evs, sv_ev, sv_evT, sv_nth, sv_adq, sv_gs, q_Ks_6, q_Q_6]
    refine ⟨⟨⟨bb, Kb⟩, ⟨bm, Km⟩, ⟨bg, Kg⟩⟩, ?_⟩
    rw [sv_Qvok_iff]
    unfold sv_vr
    rw [h2, h3, h4]
    omega
-- vok_4_110
def q_l47 : SvM := ([(0, none), (0, none), (0, none), (-1180591620717411303424, none), (-1180591620717411303424, none), (-1180591620717411303424, none), (-1180591620717411303424, none), (-1180591620717411303424, none), (-1180591620717411303424, none), (-1180591620717411303424, none), (-1180591620717411303424, none), (-1180591620717411303424, none), (-1180591620717411303424, none)], [(1, [45], [(0, [(0, 1)])]), (1, [44], [(0, [(2, 1)])]), (4, [46, 1], [(0, [(1, 1)]), (0, [(3, 3)]), (0, [(6, 1)])]), (4, [46, 1], [(0, [(1, 1)]), (1, [(3, 3)]), (0, [(7, 1)])]), (4, [46, 1], [(0, [(1, 1)]), (2, [(3, 3)]), (0, [(8, 1)])]), (2, [], [(0, [(1, 1)]), (0, [(9, 1)])]), (0, [], [(0, [(3, 1)])]), (0, [], [(-3, [(3, -3), (9, 1)])]), (2, [], [(0, [(0, 1)]), (0, [(10, 1)])]), (1, [46], [(0, [(1, 1)])]), (0, [], [(-1, [(3, 1), (6, -1)])]), (0, [], [(-1, [(3, 1), (7, -1)])]), (0, [], [(-1, [(3, 1), (8, -1)])]), (0, [], [(4, [(4, -1)])]), (0, [], [(-4, [(4, 1)])]), (4, [45, 1], [(0, [(0, 1)]), (0, [(6, 1)]), (0, [(11, 1)])]), (0, [], [(0, [(6, 1)])]), (0, [], [(-1, [(6, -1), (10, 1)])]), (0, [], [(0, [(5, -1), (11, 2)])]), (4, [45, 1], [(0, [(0, 1)]), (0, [(7, 1)]), (0, [(12, 1)])]), (0, [], [(0, [(7, 1)])]), (0, [], [(-1, [(7, -1), (10, 1)])]), (0, [], [(0, [(5, -1), (12, 2)])]), (0, [], [(-1, [(8, -1)])])], [(22, [], [(0, [(0, 1)]), (0, [(1, 1)]), (0, [(2, 1)]), (0, [(3, 1)]), (0, [(4, 1)]), (0, [(5, 1)])])])
theorem q_l47_ok : ∀ (g : Int → Int → Int) (ln : Int → Int) (kf : Int → Nat) (ρ : List Int), sv_BOk ρ q_l47.1 → (∀ f ∈ q_l47.2.1, sv_FQk q_Ks q_Q g ln kf ρ f) → ∀ f ∈ q_l47.2.2, sv_FQk q_Ks q_Q g ln kf ρ f := by
  intro g ln kf ρ hb hf
  obtain ⟨hl, hb⟩ := hb
  obtain ⟨xb, r0, rfl, l0⟩ := sv_lens hl
  obtain ⟨xm, r1, rfl, l1⟩ := sv_lens l0
  obtain ⟨xg, r2, rfl, l2⟩ := sv_lens l1
  obtain ⟨xv, r3, rfl, l3⟩ := sv_lens l2
  obtain ⟨xk, r4, rfl, l4⟩ := sv_lens l3
  obtain ⟨xy, r5, rfl, l5⟩ := sv_lens l4
  obtain ⟨xc, r6, rfl, l6⟩ := sv_lens l5
  obtain ⟨xd, r7, rfl, l7⟩ := sv_lens l6
  obtain ⟨xe, r8, rfl, l8⟩ := sv_lens l7
  obtain ⟨xNM, r9, rfl, l9⟩ := sv_lens l8
  obtain ⟨xNB, r10, rfl, l10⟩ := sv_lens l9
  obtain ⟨xcb, r11, rfl, l11⟩ := sv_lens l10
  obtain ⟨xdb, r12, rfl, l12⟩ := sv_lens l11
  obtain rfl := sv_len0 l12
  clear l0 l1 l2 l3 l4 l5 l6 l7 l8 l9 l10 l11 l12 hl
  have bb : 0 ≤ xb := (hb 0 _ _ rfl rfl).1
  have bm : 0 ≤ xm := (hb 1 _ _ rfl rfl).1
  have bg : 0 ≤ xg := (hb 2 _ _ rfl rfl).1
  clear hb
  have h0 := hf _ (List.mem_of_getElem? (i := 0) rfl)
  simp [sv_FQk, sv_FQ, sv_evs, sv_ev, sv_evT, sv_nth, sv_adq, sv_gs] at h0
  have h1 := hf _ (List.mem_of_getElem? (i := 1) rfl)
  simp [sv_FQk, sv_FQ, sv_evs, sv_ev, sv_evT, sv_nth, sv_adq, sv_gs] at h1
  have h2 := hf _ (List.mem_of_getElem? (i := 2) rfl)
  simp [sv_FQk, sv_FQ, sv_evs, sv_ev, sv_evT, sv_nth, sv_adq, sv_gs] at h2
  have h3 := hf _ (List.mem_of_getElem? (i := 3) rfl)
  simp [sv_FQk, sv_FQ, sv_evs, sv_ev, sv_evT, sv_nth, sv_adq, sv_gs] at h3
  have h4 := hf _ (List.mem_of_getElem? (i := 4) rfl)
  simp [sv_FQk, sv_FQ, sv_evs, sv_ev, sv_evT, sv_nth, sv_adq, sv_gs] at h4
  have h5 := hf _ (List.mem_of_getElem? (i := 5) rfl)
  simp [sv_FQk, sv_FQ, sv_evs, sv_ev, sv_evT, sv_nth, sv_adq, sv_gs] at h5
  have h6 := hf _ (List.mem_of_getElem? (i := 6) rfl)
  simp [sv_FQk, sv_FQ, sv_evs, sv_ev, sv_evT, sv_nth, sv_adq, sv_gs] at h6
  have h7 := hf _ (List.mem_of_getElem? (i := 7) rfl)
  simp [sv_FQk, sv_FQ, sv_evs, sv_ev, sv_evT, sv_nth, sv_adq, sv_gs] at h7
  have h8 := hf _ (List.mem_of_getElem? (i := 8) rfl)
  simp [sv_FQk, sv_FQ, sv_evs, sv_ev, sv_evT, sv_nth, sv_adq, sv_gs] at h8
  have h9 := hf _ (List.mem_of_getElem? (i := 9) rfl)
  simp [sv_FQk, sv_FQ, sv_evs, sv_ev, sv_evT, sv_nth, sv_adq, sv_gs] at h9
  have h10 := hf _ (List.mem_of_getElem? (i := 10) rfl)
  simp [sv_FQk, sv_FQ, sv_evs, sv_ev, sv_evT, sv_nth, sv_adq, sv_gs] at h10
  have h11 := hf _ (List.mem_of_getElem? (i := 11) rfl)
  simp [sv_FQk, sv_FQ, sv_evs, sv_ev, sv_evT, sv_nth, sv_adq, sv_gs] at h11
  have h12 := hf _ (List.mem_of_getElem? (i := 12) rfl)
  simp [sv_FQk, sv_FQ, sv_evs, sv_ev, sv_evT, sv_nth, sv_adq, sv_gs] at h12
  have h13 := hf _ (List.mem_of_getElem? (i := 13) rfl)
  simp [sv_FQk, sv_FQ, sv_evs, sv_ev, sv_evT, sv_nth, sv_adq, sv_gs] at h13
  have h14 := hf _ (List.mem_of_getElem? (i := 14) rfl)
  simp [sv_FQk, sv_FQ, sv_evs, sv_ev, sv_evT, sv_nth, sv_adq, sv_gs] at h14
  have h15 := hf _ (List.mem_of_getElem? (i := 15) rfl)
  simp [sv_FQk, sv_FQ, sv_evs, sv_ev, sv_evT, sv_nth, sv_adq, sv_gs] at h15
  have h16 := hf _ (List.mem_of_getElem? (i := 16) rfl)
  simp [sv_FQk, sv_FQ, sv_evs, sv_ev, sv_evT, sv_nth, sv_adq, sv_gs] at h16
  have h17 := hf _ (List.mem_of_getElem? (i := 17) rfl)
  simp [sv_FQk, sv_FQ, sv_evs, sv_ev, sv_evT, sv_nth, sv_adq, sv_gs] at h17
  have h18 := hf _ (List.mem_of_getElem? (i := 18) rfl)
  simp [sv_FQk, sv_FQ, sv_evs, sv_ev, sv_evT, sv_nth, sv_adq, sv_gs] at h18
  have h19 := hf _ (List.mem_of_getElem? (i := 19) rfl)
  simp [sv_FQk, sv_FQ, sv_evs, sv_ev, sv_evT, sv_nth, sv_adq, sv_gs] at h19
  have h20 := hf _ (List.mem_of_getElem? (i := 20) rfl)
  simp [sv_FQk, sv_FQ, sv_evs, sv_ev, sv_evT, sv_nth, sv_adq, sv_gs] at h20
  have h21 := hf _ (List.mem_of_getElem? (i := 21) rfl)
  simp [sv_FQk, sv_FQ, sv_evs, sv_ev, sv_evT, sv_nth, sv_adq, sv_gs] at h21
  have h22 := hf _ (List.mem_of_getElem? (i := 22) rfl)
  simp [sv_FQk, sv_FQ, sv_evs, sv_ev, sv_evT, sv_nth, sv_adq, sv_gs] at h22
  have h23 := hf _ (List.mem_of_getElem? (i := 23) rfl)
  simp [sv_FQk, sv_FQ, sv_evs, sv_ev, sv_evT, sv_nth, sv_adq, sv_gs] at h23
  clear hf
  have Kb : kf xb = 45 := by omega
  have Kg : kf xg = 44 := by omega
  replace h2 := h2 bm (by omega) (by have := h5 bm; omega)
  replace h3 := h3 bm (by omega) (by have := h5 bm; omega)
  replace h4 := h4 bm (by omega) (by have := h5 bm; omega)
  have Km : kf xm = 46 := by omega
  replace h15 := h15 bb (by omega) (by have := h8 bb; omega)
  replace h19 := h19 bb (by omega) (by have := h8 bb; omega)
  intro f hf
  have hf : f ∈ [(22, [], [(0, [(0, 1)]), (0, [(1, 1)]), (0, [(2, 1)]), (0, [(3, 1)]), (0, [(4, 1)]), (0, [(5, 1)])])] := hf
  simp only [List.mem_cons, List.not_mem_nil, or_false] at hf
  subst hf
  · simp [sv_FQk, sv_FQ, sv_evs, sv_ev, sv_evT, sv_nth, sv_adq, sv_gs, q_Ks_6, q_Q_6]
    refine ⟨⟨⟨bb, Kb⟩, ⟨bm, Km⟩, ⟨bg, Kg⟩⟩, ?_⟩
    rw [sv_Qvok_iff]
    unfold sv_vr
    rw [h2, h3, h4]
    omega
-- vok_4_111
def q_l48 : SvM := ([(0, none), (0, none), (0, none), (-1180591620717411303424, none), (-1180591620717411303424, none), (-1180591620717411303424, none), (-1180591620717411303424, none), (-1180591620717411303424, none), (-1180591620717411303424, none), (-1180591620717411303424, none), (-1180591620717411303424, none), (-1180591620717411303424, none), (-1180591620717411303424, none), (-1180591620717411303424, none)], [(1, [45], [(0, [(0, 1)])]), (1, [44], [(0, [(2, 1)])]), (4, [46, 1], [(0, [(1, 1)]), (0, [(3, 3)]), (0, [(6, 1)])]), (4, [46, 1], [(0, [(1, 1)]), (1, [(3, 3)]), (0, [(7, 1)])]), (4, [46, 1], [(0, [(1, 1)]), (2, [(3, 3)]), (0, [(8, 1)])]), (2, [], [(0, [(1, 1)]), (0, [(9, 1)])]), (0, [], [(0, [(3, 1)])]), (0, [], [(-3, [(3, -3), (9, 1)])]), (2, [], [(0, [(0, 1)]), (0, [(10, 1)])]), (1, [46], [(0, [(1, 1)])]), (0, [], [(-1, [(3, 1), (6, -1)])]), (0, [], [(-1, [(3, 1), (7, -1)])]), (0, [], [(-1, [(3, 1), (8, -1)])]), (0, [], [(4, [(4, -1)])]), (0, [], [(-4, [(4, 1)])]), (4, [45, 1], [(0, [(0, 1)]), (0, [(6, 1)]), (0, [(11, 1)])]), (0, [], [(0, [(6, 1)])]), (0, [], [(-1, [(6, -1), (10, 1)])]), (0, [], [(0, [(5, -1), (11, 2)])]), (4, [45, 1], [(0, [(0, 1)]), (0, [(7, 1)]), (0, [(12, 1)])]), (0, [], [(0, [(7, 1)])]), (0, [], [(-1, [(7, -1), (10, 1)])]), (0, [], [(0, [(5, -1), (12, 2)])]), (4, [45, 1], [(0, [(0, 1)]), (0, [(8, 1)]), (0, [(13, 1)])]), (0, [], [(0, [(8, 1)])]), (0, [], [(-1, [(8, -1), (10, 1)])]), (0, [], [(0, [(5, -1), (13, 2)])])], [(22, [], [(0, [(0, 1)]), (0, [(1, 1)]), (0, [(2, 1)]), (0, [(3, 1)]), (0, [(4, 1)]), (0, [(5, 1)])])])
theorem q_l48_ok : ∀ (g : Int → Int → Int) (ln : Int → Int) (kf : Int → Nat) (ρ : List Int), sv_BOk ρ q_l48.1 → (∀ f ∈ q_l48.2.1, sv_FQk q_Ks q_Q g ln kf ρ f) → ∀ f ∈ q_l48.2.2, sv_FQk q_Ks q_Q g ln kf ρ f := by
  intro g ln kf ρ hb hf
  obtain ⟨hl, hb⟩ := hb
  obtain ⟨xb, r0, rfl, l0⟩ := sv_lens hl
  obtain ⟨xm, r1, rfl, l1⟩ := sv_lens l0
  obtain ⟨xg, r2, rfl, l2⟩ := sv_lens l1
  obtain ⟨xv, r3, rfl, l3⟩ := sv_lens l2
  obtain ⟨xk, r4, rfl, l4⟩ := sv_lens l3
  obtain ⟨xy, r5, rfl, l5⟩ := sv_lens l4
  obtain ⟨xc, r6, rfl, l6⟩ := sv_lens l5
  obtain ⟨xd, r7, rfl, l7⟩ := sv_lens l6
  obtain ⟨xe, r8, rfl, l8⟩ := sv_lens l7
  obtain ⟨xNM, r9, rfl, l9⟩ := sv_lens l8
  obtain ⟨xNB, r10, rfl, l10⟩ := sv_lens l9
  obtain ⟨xcb, r11, rfl, l11⟩ := sv_lens l10
  obtain ⟨xdb, r12, rfl, l12⟩ := sv_lens l11
  obtain ⟨xeb, r13, rfl, l13⟩ := sv_lens l12
  obtain rfl := sv_len0 l13
  clear l0 l1 l2 l3 l4 l5 l6 l7 l8 l9 l10 l11 l12 l13 hl
  have bb : 0 ≤ xb := (hb 0 _ _ rfl rfl).1
  have bm : 0 ≤ xm := (hb 1 _ _ rfl rfl).1
  have bg : 0 ≤ xg := (hb 2 _ _ rfl rfl).1
  clear hb
  have h0 := hf _ (List.mem_of_getElem? (i := 0) rfl)
  simp [sv_FQk, sv_FQ, sv_evs, sv_ev, sv_evT, sv_nth, sv_adq, sv_gs] at h0
  have h1 := hf _ (List.mem_of_getElem? (i := 1) rfl)
  simp [sv_FQk, sv_FQ, sv_evs, sv_ev, sv_evT, sv_nth, sv_adq, sv_gs] at h1
  have h2 := hf _ (List.mem_of_getElem? (i := 2) rfl)
  simp [sv_FQk, sv_FQ, sv_evs, sv_ev, sv_evT, sv_nth, sv_adq, sv_gs] at h2
  have h3 := hf _ (List.mem_of_getElem? (i := 3) rfl)
  simp [sv_FQk, sv_FQ, sv_evs, sv_ev, sv_evT, sv_nth, sv_adq, sv_gs] at h3
  have h4 := hf _ (List.mem_of_getElem? (i := 4) rfl)
  simp [sv_FQk, sv_FQ, sv_evs, sv_ev, sv_evT, sv_nth, sv_adq, sv_gs] at h4
  have h5 := hf _ (List.mem_of_getElem? (i := 5) rfl)
  simp [sv_FQk, sv_FQ, sv_evs, sv_ev, sv_evT, sv_nth, sv_adq, sv_gs] at h5
  have h6 := hf _ (List.mem_of_getElem? (i := 6) rfl)
  simp [sv_FQk, sv_FQ, sv_evs, sv_ev, sv_evT, sv_nth, sv_adq, sv_gs] at h6
  have h7 := hf _ (List.mem_of_getElem? (i := 7) rfl)
  simp [sv_FQk, sv_FQ, sv_evs, sv_ev, sv_evT, sv_nth, sv_adq, sv_gs] at h7
  have h8 := hf _ (List.mem_of_getElem? (i := 8) rfl)
  simp [sv_FQk, sv_FQ, sv_evs, sv_ev, sv_evT, sv_nth, sv_adq, sv_gs] at h8
  have h9 := hf _ (List.mem_of_getElem? (i := 9) rfl)
  simp [sv_FQk, sv_FQ, sv_evs, sv_ev, sv_evT, sv_nth, sv_adq, sv_gs] at h9
  have h10 := hf _ (List.mem_of_getElem? (i := 10) rfl)
  simp [sv_FQk, sv_FQ, sv_evs, sv_ev, sv_evT, sv_nth, sv_adq, sv_gs] at h10
  have h11 := hf _ (List.mem_of_getElem? (i := 11) rfl)
  simp [sv_FQk, sv_FQ, sv_evs, sv_ev, sv_evT, sv_nth, sv_adq, sv_gs] at h11
  have h12 := hf _ (List.mem_of_getElem? (i := 12) rfl)
  simp [sv_FQk, sv_FQ, sv_evs, sv_ev, sv_evT, sv_nth, sv_adq, sv_gs] at h12
  have h13 := hf _ (List.mem_of_getElem? (i := 13) rfl)
  simp [sv_FQk, sv_FQ, sv_evs, sv_ev, sv_evT, sv_nth, sv_adq, sv_gs] at h13
  have h14 := hf _ (List.mem_of_getElem? (i := 14) rfl)
  simp [sv_FQk, sv_FQ, sv_evs, sv_ev, sv_evT, sv_nth, sv_adq, sv_gs] at h14
  have h15 := hf _ (List.mem_of_getElem? (i := 15) rfl)
  simp [sv_FQk, sv_FQ, sv_evs, sv_ev, sv_evT, sv_nth, sv_adq, sv_gs] at h15
  have h16 := hf _ (List.mem_of_getElem? (i := 16) rfl)
  simp [sv_FQk, sv_FQ, sv_evs, sv_ev, sv_evT, sv_nth, sv_adq, sv_gs] at h16
  have h17 := hf _ (List.mem_of_getElem? (i := 17) rfl)
  simp [sv_FQk, sv_FQ, sv_evs, sv_ev, sv_evT, sv_nth, sv_adq, sv_gs] at h17
  have h18 := hf _ (List.mem_of_getElem? (i := 18) rfl)
  simp [sv_FQk, sv_FQ, sv_evs, sv_ev, sv_evT, sv_nth, sv_adq, sv_gs] at h18
  have h19 := hf _ (List.mem_of_getElem? (i := 19) rfl)
  simp [sv_FQk, sv_FQ, sv_evs, sv_ev, sv_evT, sv_nth, sv_adq, sv_gs] at h19
  have h20 := hf _ (List.mem_of_getElem? (i := 20) rfl)
  simp [sv_FQk, sv_FQ, sv_evs, sv_ev, sv_evT, sv_nth, sv_adq, sv_gs] at h20
  have h21 := hf _ (List.mem_of_getElem? (i := 21) rfl)
  simp [sv_FQk, sv_FQ, sv_evs, sv_ev, sv_evT, sv_nth, sv_adq, sv_gs] at h21
  have h22 := hf _ (List.mem_of_getElem? (i := 22) rfl)
  simp [sv_FQk, sv_FQ, sv_evs, sv_ev, sv_evT, sv_nth, sv_adq, sv_gs] at h22
  have h23 := hf _ (List.mem_of_getElem? (i := 23) rfl)
  simp [sv_FQk, sv_FQ, sv_evs, sv_ev, sv_evT, sv_nth, sv_adq, sv_gs] at h23
  have h24 := hf _ (List.mem_of_getElem? (i := 24) rfl)
  simp [sv_FQk, sv_FQ, sv_evs, sv_ev, sv_evT, sv_nth, sv_adq, sv_gs] at h24
  have h25 := hf _ (List.mem_of_getElem? (i := 25) rfl)
  simp [sv_FQk, sv_FQ, sv_evs, sv_ev, sv_evT, sv_nth, sv_adq, sv_gs] at h25
  have h26 := hf _ (List.mem_of_getElem? (i := 26) rfl)
  simp [sv_FQk, sv_FQ, sv_evs, sv_ev, sv_evT, sv_nth, sv_adq, sv_gs] at h26
  clear hf
  have Kb : kf xb = 45 := by omega
  have Kg : kf xg = 44 := by omega
  replace h2 := h2 bm (by omega) (by have := h5 bm; omega)
  replace h3 := h3 bm (by omega) (by have := h5 bm; omega)
  replace h4 := h4 bm (by omega) (by have := h5 bm; omega)
  have Km : kf xm = 46 := by omega
  replace h15 := h15 bb (by omega) (by have := h8 bb; omega)
  replace h19 := h19 bb (by omega) (by have := h8 bb; omega)
  replace h23 := h23 bb (by omega) (by have := h8 bb; omega)
  intro f hf
  have hf : f ∈ [(22, [], [(0, [(0, 1)]), (0, [(1, 1)]), (0, [(2, 1)]), (0, [(3, 1)]), (0, [(4, 1)]), (0, [(5, 1)])])] := hf
  simp only [List.mem_cons, List.not_mem_nil, or_false] at hf
  subst hf
  · simp [sv_FQk, sv_FQ, sv_evs, sv_ev, sv_evT, sv_nth, sv_adq, sv_gs, q_Ks_6, q_Q_6]
    refine ⟨⟨⟨bb, Kb⟩, ⟨bm, Km⟩, ⟨bg, Kg⟩⟩, ?_⟩
    rw [sv_Qvok_iff]
    unfold sv_vr
    rw [h2, h3, h4]
    omega
-- wb_v
def q_l49 : SvM := ([(0, none), (0, none), (0, none), (-1180591620717411303424, none), (-1180591620717411303424, none), (-1180591620717411303424, none), (-1180591620717411303424, none), (-1180591620717411303424, none)], [(23, [], [(0, [(0, 1)]), (0, [(1, 1)]), (0, [(2, 1)]), (0, [(3, 1)]), (0, [(4, 1)])]), (4, [58, 1], [(0, [(0, 1)]), (0, [(5, 1)]), (0, [(6, 1)])]), (2, [], [(0, [(0, 1)]), (0, [(7, 1)])]), (0, [], [(0, [(5, 1)])]), (0, [], [(-1, [(3, 1), (5, -1)])]), (0, [], [(-1, [(5, -1), (7, 1)])])], [(0, [], [(-1, [(4, 1), (6, -1)])])])
theorem q_l49_ok : ∀ (g : Int → Int → Int) (ln : Int → Int) (kf : Int → Nat) (ρ : List Int), sv_BOk ρ q_l49.1 → (∀ f ∈ q_l49.2.1, sv_FQk q_Ks q_Q g ln kf ρ f) → ∀ f ∈ q_l49.2.2, sv_FQk q_Ks q_Q g ln kf ρ f := by
  intro g ln kf ρ hb hf
  obtain ⟨hl, hb⟩ := hb
  obtain ⟨xa, r0, rfl, l0⟩ := sv_lens hl
  obtain ⟨xb, r1, rfl, l1⟩ := sv_lens l0
  obtain ⟨xc, r2, rfl, l2⟩ := sv_lens l1
  obtain ⟨xn, r3, rfl, l3⟩ := sv_lens l2
  obtain ⟨xw, r4, rfl, l4⟩ := sv_lens l3
  obtain ⟨xi, r5, rfl, l5⟩ := sv_lens l4
  obtain ⟨xx, r6, rfl, l6⟩ := sv_lens l5
  obtain ⟨xNA, r7, rfl, l7⟩ := sv_lens l6
  obtain rfl := sv_len0 l7
  clear l0 l1 l2 l3 l4 l5 l6 l7 hl
  have ba : 0 ≤ xa := (hb 0 _ _ rfl rfl).1
  have bb : 0 ≤ xb := (hb 1 _ _ rfl rfl).1
  have bc : 0 ≤ xc := (hb 2 _ _ rfl rfl).1
  clear hb
  have h0 := hf _ (List.mem_of_getElem? (i := 0) rfl)
  simp [sv_FQk, sv_FQ, sv_evs, sv_ev, sv_evT, sv_nth, sv_adq, sv_gs, q_Ks_7, q_Q_7] at h0
  have h1 := hf _ (List.mem_of_getElem? (i := 1) rfl)
  simp [sv_FQk, sv_FQ, sv_evs, sv_ev, sv_evT, sv_nth, sv_adq, sv_gs] at h1
  have h2 := hf _ (List.mem_of_getElem? (i := 2) rfl)
  simp [sv_FQk, sv_FQ, sv_evs, sv_ev, sv_evT, sv_nth, sv_adq, sv_gs] at h2
  have h3 := hf _ (List.mem_of_getElem? (i := 3) rfl)
  simp [sv_FQk, sv_FQ, sv_evs, sv_ev, sv_evT, sv_nth, sv_adq, sv_gs] at h3
  have h4 := hf _ (List.mem_of_getElem? (i := 4) rfl)
  simp [sv_FQk, sv_FQ, sv_evs, sv_ev, sv_evT, sv_nth, sv_adq, sv_gs] at h4
  have h5 := hf _ (List.mem_of_getElem? (i := 5) rfl)
  simp [sv_FQk, sv_FQ, sv_evs, sv_ev, sv_evT, sv_nth, sv_adq, sv_gs] at h5
  clear hf
  obtain ⟨⟨⟨-, Ka⟩, ⟨-, Kb⟩, ⟨-, Kc⟩⟩, h0⟩ := h0
  rw [sv_Qwb_iff] at h0
  replace h1 := h1 ba (by omega) (by have := h2 ba; omega)
  intro f hf
  have hf : f ∈ [(0, [], [(-1, [(4, 1), (6, -1)])])] := hf
  simp only [List.mem_cons, List.not_mem_nil, or_false] at hf
  subst hf
  · simp [sv_FQk, sv_FQ, sv_evs, sv_ev, sv_evT, sv_nth, sv_adq, sv_gs]
    have q := h0 xi (by omega) (by omega)
    rw [h1] at q
    omega
-- wb_b
def q_l50 : SvM := ([(0, none), (0, none), (0, none), (-1180591620717411303424, none), (-1180591620717411303424, none), (-1180591620717411303424, none), (-1180591620717411303424, none), (-1180591620717411303424, none), (-1180591620717411303424, none), (-1180591620717411303424, none), (-1180591620717411303424, none), (-1180591620717411303424, none)], [(23, [], [(0, [(0, 1)]), (0, [(1, 1)]), (0, [(2, 1)]), (0, [(3, 1)]), (0, [(4, 1)])]), (4, [58, 1], [(0, [(0, 1)]), (0, [(5, 1)]), (0, [(6, 1)])]), (2, [], [(0, [(0, 1)]), (0, [(9, 1)])]), (0, [], [(0, [(5, 1)])]), (0, [], [(-1, [(3, 1), (5, -1)])]), (0, [], [(-1, [(5, -1), (9, 1)])]), (4, [59, 1], [(0, [(1, 1)]), (0, [(5, 1)]), (0, [(7, 1)])]), (2, [], [(0, [(1, 1)]), (0, [(10, 1)])]), (0, [], [(-1, [(5, -1), (10, 1)])]), (4, [45, 1], [(0, [(2, 1)]), (0, [(6, 1)]), (0, [(8, 1)])]), (2, [], [(0, [(2, 1)]), (0, [(11, 1)])]), (0, [], [(0, [(6, 1)])]), (0, [], [(-1, [(6, -1), (11, 1)])])], [(0, [], [(-1, [(7, -1), (8, 1)])])])
theorem q_l50_ok : ∀ (g : Int → Int → Int) (ln : Int → Int) (kf : Int → Nat) (ρ : List Int), sv_BOk ρ q_l50.1 → (∀ f ∈ q_l50.2.1, sv_FQk q_Ks q_Q g ln kf ρ f) → ∀ f ∈ q_l50.2.2, sv_FQk q_Ks q_Q g ln kf ρ f := by
  intro g ln kf ρ hb hf
  obtain ⟨hl, hb⟩ := hb
  obtain ⟨xa, r0, rfl, l0⟩ := sv_lens hl
  obtain ⟨xb, r1, rfl, l1⟩ := sv_lens l0
  obtain ⟨xc, r2, rfl, l2⟩ := sv_lens l1
  obtain ⟨xn, r3, rfl, l3⟩ := sv_lens l2
  obtain ⟨xw, r4, rfl, l4⟩ := sv_lens l3
  obtain ⟨xi, r5, rfl, l5⟩ := sv_lens l4
  obtain ⟨xx, r6, rfl, l6⟩ := sv_lens l5
  obtain ⟨xy, r7, rfl, l7⟩ := sv_lens l6
  obtain ⟨xz, r8, rfl, l8⟩ := sv_lens l7
  obtain ⟨xNA, r9, rfl, l9⟩ := sv_lens l8
  obtain ⟨xNB, r10, rfl, l10⟩ := sv_lens l9
  obtain ⟨xNC, r11, rfl, l11⟩ := sv_lens l10
  obtain rfl := sv_len0 l11
  clear l0 l1 l2 l3 l4 l5 l6 l7 l8 l9 l10 l11 hl
  have ba : 0 ≤ xa := (hb 0 _ _ rfl rfl).1
  have bb : 0 ≤ xb := (hb 1 _ _ rfl rfl).1
  have bc : 0 ≤ xc := (hb 2 _ _ rfl rfl).1
  clear hb
  have h0 := hf _ (List.mem_of_getElem? (i := 0) rfl)
  simp [sv_FQk, sv_FQ, sv_evs, sv_ev, sv_evT, sv_nth, sv_adq, sv_gs, q_Ks_7, q_Q_7] at h0
  have h1 := hf _ (List.mem_of_getElem? (i := 1) rfl)
  simp [sv_FQk, sv_FQ, sv_evs, sv_ev, sv_evT, sv_nth, sv_adq, sv_gs] at h1
  have h2 := hf _ (List.mem_of_getElem? (i := 2) rfl)
  simp [sv_FQk, sv_FQ, sv_evs, sv_ev, sv_evT, sv_nth, sv_adq, sv_gs] at h2
  have h3 := hf _ (List.mem_of_getElem? (i := 3) rfl)
  simp [sv_FQk, sv_FQ, sv_evs, sv_ev, sv_evT, sv_nth, sv_adq, sv_gs] at h3
  have h4 := hf _ (List.mem_of_getElem? (i := 4) rfl)
  simp [sv_FQk, sv_FQ, sv_evs, sv_ev, sv_evT, sv_nth, sv_adq, sv_gs] at h4
  have h5 := hf _ (List.mem_of_getElem? (i := 5) rfl)
  simp [sv_FQk, sv_FQ, sv_evs, sv_ev, sv_evT, sv_nth, sv_adq, sv_gs] at h5
  have h6 := hf _ (List.mem_of_getElem? (i := 6) rfl)
  simp [sv_FQk, sv_FQ, sv_evs, sv_ev, sv_evT, sv_nth, sv_adq, sv_gs] at h6
  have h7 := hf _ (List.mem_of_getElem? (i := 7) rfl)
  simp [sv_FQk, sv_FQ, sv_evs, sv_ev, sv_evT, sv_nth, sv_adq, sv_gs] at h7
  have h8 := hf _ (List.mem_of_getElem? (i := 8) rfl)
  simp [sv_FQk, sv_FQ, sv_evs, sv_ev, sv_evT, sv_nth, sv_adq, sv_gs] at h8
  have h9 := hf _ (List.mem_of_getElem? (i := 9) rfl)
  simp [sv_FQk, sv_FQ, sv_evs, sv_ev, sv_evT, sv_nth, sv_adq, sv_gs] at h9
  have h10 := hf _ (List.mem_of_getElem? (i := 10) rfl)
  simp [sv_FQk, sv_FQ, sv_evs, sv_ev, sv_evT, sv_nth, sv_adq, sv_gs] at h10
  have h11 := hf _ (List.mem_of_getElem? (i := 11) rfl)
  simp [sv_FQk, sv_FQ, sv_evs, sv_ev, sv_evT, sv_nth, sv_adq, sv_gs] at h11
  have h12 := hf _ (List.mem_of_getElem? (i := 12) rfl)
  simp [sv_FQk, sv_FQ, sv_evs, sv_ev, sv_evT, sv_nth, sv_adq, sv_gs] at h12
  clear hf
  obtain ⟨⟨⟨-, Ka⟩, ⟨-, Kb⟩, ⟨-, Kc⟩⟩, h0⟩ := h0
  rw [sv_Qwb_iff] at h0
  replace h1 := h1 ba (by omega) (by have := h2 ba; omega)
  replace h6 := h6 bb (by omega) (by have := h7 bb; omega)
  replace h9 := h9 bc (by omega) (by have := h10 bc; omega)
  intro f hf
  have hf : f ∈ [(0, [], [(-1, [(7, -1), (8, 1)])])] := hf
  simp only [List.mem_cons, List.not_mem_nil, or_false] at hf
  subst hf
  · simp [sv_FQk, sv_FQ, sv_evs, sv_ev, sv_evT, sv_nth, sv_adq, sv_gs]
    have q := h0 xi (by omega) (by omega)
    rw [h1] at q
    omega
-- wb_0
def q_l51 : SvM := ([(0, none), (0, none), (0, none), (-1180591620717411303424, none), (-1180591620717411303424, none)], [(1, [58], [(0, [(0, 1)])]), (1, [59], [(0, [(1, 1)])]), (1, [45], [(0, [(2, 1)])]), (0, [], [(0, [(3, -1)])])], [(23, [], [(0, [(0, 1)]), (0, [(1, 1)]), (0, [(2, 1)]), (0, [(3, 1)]), (0, [(4, 1)])])])
theorem q_l51_ok : ∀ (g : Int → Int → Int) (ln : Int → Int) (kf : Int → Nat) (ρ : List Int), sv_BOk ρ q_l51.1 → (∀ f ∈ q_l51.2.1, sv_FQk q_Ks q_Q g ln kf ρ f) → ∀ f ∈ q_l51.2.2, sv_FQk q_Ks q_Q g ln kf ρ f := by
  intro g ln kf ρ hb hf
  obtain ⟨hl, hb⟩ := hb
  obtain ⟨xa, r0, rfl, l0⟩ := sv_lens hl
  obtain ⟨xb, r1, rfl, l1⟩ := sv_lens l0
  obtain ⟨xc, r2, rfl, l2⟩ := sv_lens l1
  obtain ⟨xn, r3, rfl, l3⟩ := sv_lens l2
  obtain ⟨xw, r4, rfl, l4⟩ := sv_lens l3
  obtain rfl := sv_len0 l4
  clear l0 l1 l2 l3 l4 hl
  have ba : 0 ≤ xa := (hb 0 _ _ rfl rfl).1
  have bb : 0 ≤ xb := (hb 1 _ _ rfl rfl).1
  have bc : 0 ≤ xc := (hb 2 _ _ rfl rfl).1
  clear hb
  have h0 := hf _ (List.mem_of_getElem? (i := 0) rfl)
  simp [sv_FQk, sv_FQ, sv_evs, sv_ev, sv_evT, sv_nth, sv_adq, sv_gs] at h0
  have h1 := hf _ (List.mem_of_getElem? (i := 1) rfl)
  simp [sv_FQk, sv_FQ, sv_evs, sv_ev, sv_evT, sv_nth, sv_adq, sv_gs] at h1
  have h2 := hf _ (List.mem_of_getElem? (i := 2) rfl)
  simp [sv_FQk, sv_FQ, sv_evs, sv_ev, sv_evT, sv_nth, sv_adq, sv_gs] at h2
  have h3 := hf _ (List.mem_of_getElem? (i := 3) rfl)
  simp [sv_FQk, sv_FQ, sv_evs, sv_ev, sv_evT, sv_nth, sv_adq, sv_gs] at h3
  clear hf
  have Ka : kf xa = 58 := by omega
  have Kb : kf xb = 59 := by omega
  have Kc : kf xc = 45 := by omega
  intro f hf
  have hf : f ∈ [(23, [], [(0, [(0, 1)]), (0, [(1, 1)]), (0, [(2, 1)]), (0, [(3, 1)]), (0, [(4, 1)])])] := hf
  simp only [List.mem_cons, List.not_mem_nil, or_false] at hf
  subst hf
  · simp [sv_FQk, sv_FQ, sv_evs, sv_ev, sv_evT, sv_nth, sv_adq, sv_gs, q_Ks_7, q_Q_7]
    refine ⟨⟨⟨ba, Ka⟩, ⟨bb, Kb⟩, ⟨bc, Kc⟩⟩, ?_⟩
    rw [sv_Qwb_iff]
    intro j j1 j2
    omega
-- wb_w
def q_l52 : SvM := ([(0, none), (0, none), (0, none), (-1180591620717411303424, none), (-1180591620717411303424, none), (-1180591620717411303424, none)], [(23, [], [(0, [(0, 1)]), (0, [(1, 1)]), (0, [(2, 1)]), (0, [(3, 1)]), (0, [(4, 1)])]), (0, [], [(0, [(3, 1), (5, -1)])])], [(23, [], [(0, [(0, 1)]), (0, [(1, 1)]), (0, [(2, 1)]), (0, [(5, 1)]), (0, [(4, 1)])])])
theorem q_l52_ok : ∀ (g : Int → Int → Int) (ln : Int → Int) (kf : Int → Nat) (ρ : List Int), sv_BOk ρ q_l52.1 → (∀ f ∈ q_l52.2.1, sv_FQk q_Ks q_Q g ln kf ρ f) → ∀ f ∈ q_l52.2.2, sv_FQk q_Ks q_Q g ln kf ρ f := by
  intro g ln kf ρ hb hf
  obtain ⟨hl, hb⟩ := hb
  obtain ⟨xa, r0, rfl, l0⟩ := sv_lens hl
  obtain ⟨xb, r1, rfl, l1⟩ := sv_lens l0
  obtain ⟨xc, r2, rfl, l2⟩ := sv_lens l1
  obtain ⟨xn, r3, rfl, l3⟩ := sv_lens l2
  obtain ⟨xw, r4, rfl, l4⟩ := sv_lens l3
  obtain ⟨xm, r5, rfl, l5⟩ := sv_lens l4
  obtain rfl := sv_len0 l5
  clear l0 l1 l2 l3 l4 l5 hl
  have ba : 0 ≤ xa := (hb 0 _ _ rfl rfl).1
  have bb : 0 ≤ xb := (hb 1 _ _ rfl rfl).1
  have bc : 0 ≤ xc := (hb 2 _ _ rfl rfl).1
  clear hb
  have h0 := hf _ (List.mem_of_getElem? (i := 0) rfl)
  simp [sv_FQk, sv_FQ, sv_evs, sv_ev, sv_evT, sv_nth, sv_adq, sv_gs, q_Ks_7, q_Q_7] at h0
  have h1 := hf _ (List.mem_of_getElem? (i := 1) rfl)
  simp [sv_FQk, sv_FQ, sv_evs, sv_ev, sv_evT, sv_nth, sv_adq, sv_gs] at h1
  clear hf
  obtain ⟨⟨⟨-, Ka⟩, ⟨-, Kb⟩, ⟨-, Kc⟩⟩, h0⟩ := h0
  rw [sv_Qwb_iff] at h0
  intro f hf
  have hf : f ∈ [(23, [], [(0, [(0, 1)]), (0, [(1, 1)]), (0, [(2, 1)]), (0, [(5, 1)]), (0, [(4, 1)])])] := hf
  simp only [List.mem_cons, List.not_mem_nil, or_false] at hf
  subst hf
  · simp [sv_FQk, sv_FQ, sv_evs, sv_ev, sv_evT, sv_nth, sv_adq, sv_gs, q_Ks_7, q_Q_7]
    refine ⟨⟨⟨ba, Ka⟩, ⟨bb, Kb⟩, ⟨bc, Kc⟩⟩, ?_⟩
    rw [sv_Qwb_iff]
    intro j j1 j2
    exact h0 j j1 (by omega)
-- wb_a
def q_l53 : SvM := ([(0, none), (0, none), (0, none), (-1180591620717411303424, none), (-1180591620717411303424, none), (-1180591620717411303424, none), (-1180591620717411303424, none), (-1180591620717411303424, none), (-1180591620717411303424, none), (-1180591620717411303424, none), (-1180591620717411303424, none)], [(23, [], [(0, [(0, 1)]), (0, [(1, 1)]), (0, [(2, 1)]), (0, [(3, 1)]), (0, [(4, 1)])]), (4, [58, 1], [(0, [(0, 1)]), (0, [(3, 1)]), (0, [(5, 1)])]), (2, [], [(0, [(0, 1)]), (0, [(8, 1)])]), (0, [], [(0, [(3, 1)])]), (0, [], [(-1, [(3, -1), (8, 1)])]), (4, [59, 1], [(0, [(1, 1)]), (0, [(3, 1)]), (0, [(6, 1)])]), (2, [], [(0, [(1, 1)]), (0, [(9, 1)])]), (0, [], [(-1, [(3, -1), (9, 1)])]), (4, [45, 1], [(0, [(2, 1)]), (0, [(5, 1)]), (0, [(7, 1)])]), (2, [], [(0, [(2, 1)]), (0, [(10, 1)])]), (0, [], [(0, [(5, 1)])]), (0, [], [(-1, [(5, -1), (10, 1)])]), (0, [], [(-1, [(6, -1), (7, 1)])]), (0, [], [(-1, [(4, 1), (5, -1)])])], [(23, [], [(0, [(0, 1)]), (0, [(1, 1)]), (0, [(2, 1)]), (1, [(3, 1)]), (0, [(4, 1)])])])
theorem q_l53_ok : ∀ (g : Int → Int → Int) (ln : Int → Int) (kf : Int → Nat) (ρ : List Int), sv_BOk ρ q_l53.1 → (∀ f ∈ q_l53.2.1, sv_FQk q_Ks q_Q g ln kf ρ f) → ∀ f ∈ q_l53.2.2, sv_FQk q_Ks q_Q g ln kf ρ f := by
  intro g ln kf ρ hb hf
  obtain ⟨hl, hb⟩ := hb
  obtain ⟨xa, r0, rfl, l0⟩ := sv_lens hl
  obtain ⟨xb, r1, rfl, l1⟩ := sv_lens l0
  obtain ⟨xc, r2, rfl, l2⟩ := sv_lens l1
  obtain ⟨xn, r3, rfl, l3⟩ := sv_lens l2
  obtain ⟨xw, r4, rfl, l4⟩ := sv_lens l3
  obtain ⟨xx, r5, rfl, l5⟩ := sv_lens l4
  obtain ⟨xy, r6, rfl, l6⟩ := sv_lens l5
  obtain ⟨xz, r7, rfl, l7⟩ := sv_lens l6
  obtain ⟨xNA, r8, rfl, l8⟩ := sv_lens l7
  obtain ⟨xNB, r9, rfl, l9⟩ := sv_lens l8
  obtain ⟨xNC, r10, rfl, l10⟩ := sv_lens l9
  obtain rfl := sv_len0 l10
  clear l0 l1 l2 l3 l4 l5 l6 l7 l8 l9 l10 hl
  have ba : 0 ≤ xa := (hb 0 _ _ rfl rfl).1
  have bb : 0 ≤ xb := (hb 1 _ _ rfl rfl).1
  have bc : 0 ≤ xc := (hb 2 _ _ rfl rfl).1
  clear hb
  have h0 := hf _ (List.mem_of_getElem? (i := 0) rfl)
  simp [sv_FQk, sv_FQ, sv_evs, sv_ev, sv_evT, sv_nth, sv_adq, sv_gs, q_Ks_7, q_Q_7] at h0
  have h1 := hf _ (List.mem_of_getElem? (i := 1) rfl)
  simp [sv_FQk, sv_FQ, sv_evs, sv_ev, sv_evT, sv_nth, sv_adq, sv_gs] at h1
  have h2 := hf _ (List.mem_of_getElem? (i := 2) rfl)
  simp [sv_FQk, sv_FQ, sv_evs, sv_ev, sv_evT, sv_nth, sv_adq, sv_gs] at h2
  have h3 := hf _ (List.mem_of_getElem? (i := 3) rfl)
  simp [sv_FQk, sv_FQ, sv_evs, sv_ev, sv_evT, sv_nth, sv_adq, sv_gs] at h3
  have h4 := hf _ (List.mem_of_getElem? (i := 4) rfl)
  simp [sv_FQk, sv_FQ, sv_evs, sv_ev, sv_evT, sv_nth, sv_adq, sv_gs] at h4
  have h5 := hf _ (List.mem_of_getElem? (i := 5) rfl)
  simp [sv_FQk, sv_FQ, sv_evs, sv_ev, sv_evT, sv_nth, sv_adq, sv_gs] at h5
  have h6 := hf _ (List.mem_of_getElem? (i := 6) rfl)
  simp [sv_FQk, sv_FQ, sv_evs, sv_ev, sv_evT, sv_nth, sv_adq, sv_gs] at h6
  have h7 := hf _ (List.mem_of_getElem? (i := 7) rfl)
  simp [sv_FQk, sv_FQ, sv_evs, sv_ev, sv_evT, sv_nth, sv_adq, sv_gs] at h7
  have h8 := hf _ (List.mem_of_getElem? (i := 8) rfl)
  simp [sv_FQk, sv_FQ, sv_evs, sv_ev, sv_evT, sv_nth, sv_adq, sv_gs] at h8
  have h9 := hf _ (List.mem_of_getElem? (i := 9) rfl)
  simp [sv_FQk, sv_FQ, sv_evs, sv_ev, sv_evT, sv_nth, sv_adq, sv_gs] at h9
  have h10 := hf _ (List.mem_of_getElem? (i := 10) rfl)
  simp [sv_FQk, sv_FQ, sv_evs, sv_ev, sv_evT, sv_nth, sv_adq, sv_gs] at h10
  have h11 := hf _ (List.mem_of_getElem? (i := 11) rfl)
  simp [sv_FQk, sv_FQ, sv_evs, sv_ev, sv_evT, sv_nth, sv_adq, sv_gs] at h11
  have h12 := hf _ (List.mem_of_getElem? (i := 12) rfl)
  simp [sv_FQk, sv_FQ, sv_evs, sv_ev, sv_evT, sv_nth, sv_adq, sv_gs] at h12
  have h13 := hf _ (List.mem_of_getElem? (i := 13) rfl)
  simp [sv_FQk, sv_FQ, sv_evs, sv_ev, sv_evT, sv_nth, sv_adq, sv_gs] at h13
  clear hf
  obtain ⟨⟨⟨-, Ka⟩, ⟨-, Kb⟩, ⟨-, Kc⟩⟩, h0⟩ := h0
  rw [sv_Qwb_iff] at h0
  replace h1 := h1 ba (by omega) (by have := h2 ba; omega)
  replace h5 := h5 bb (by omega) (by have := h6 bb; omega)
  replace h8 := h8 bc (by omega) (by have := h9 bc; omega)
  intro f hf
  have hf : f ∈ [(23, [], [(0, [(0, 1)]), (0, [(1, 1)]), (0, [(2, 1)]), (1, [(3, 1)]), (0, [(4, 1)])])] := hf
  simp only [List.mem_cons, List.not_mem_nil, or_false] at hf
  subst hf
  · simp [sv_FQk, sv_FQ, sv_evs, sv_ev, sv_evT, sv_nth, sv_adq, sv_gs, q_Ks_7, q_Q_7]
    refine ⟨⟨⟨ba, Ka⟩, ⟨bb, Kb⟩, ⟨bc, Kc⟩⟩, ?_⟩
    rw [sv_Qwb_iff]
    intro j j1 j2
    by_cases e : j = xn
    · subst e
      rw [h1]
      omega
    · exact h0 j j1 (by omega)
-- pw_l
def q_l54 : SvM := ([(-1180591620717411303424, none), (-1180591620717411303424, none), (-1180591620717411303424, none), (-1180591620717411303424, none)], [(24, [], [(0, [(0, 1)]), (0, [(1, 1)])]), (24, [], [(0, [(2, 1)]), (0, [(3, 1)])]), (0, [], [(-1, [(0, 1), (2, -1)])]), (0, [], [(0, [(2, 1)])])], [(0, [], [(0, [(1, 1), (3, -3)])])])
theorem q_l54_ok : ∀ (g : Int → Int → Int) (ln : Int → Int) (kf : Int → Nat) (ρ : List Int), sv_BOk ρ q_l54.1 → (∀ f ∈ q_l54.2.1, sv_FQk q_Ks q_Q g ln kf ρ f) → ∀ f ∈ q_l54.2.2, sv_FQk q_Ks q_Q g ln kf ρ f := by
  intro g ln kf ρ hb hf
  obtain ⟨hl, hb⟩ := hb
  obtain ⟨xw, r0, rfl, l0⟩ := sv_lens hl
  obtain ⟨xe, r1, rfl, l1⟩ := sv_lens l0
  obtain ⟨xv, r2, rfl, l2⟩ := sv_lens l1
  obtain ⟨xd, r3, rfl, l3⟩ := sv_lens l2
  obtain rfl := sv_len0 l3
  clear l0 l1 l2 l3 hl
  clear hb
  have h0 := hf _ (List.mem_of_getElem? (i := 0) rfl)
  simp [sv_FQk, sv_FQ, sv_evs, sv_ev, sv_evT, sv_nth, sv_adq, sv_gs, q_Ks_8, q_Q_8] at h0
  have h1 := hf _ (List.mem_of_getElem? (i := 1) rfl)
  simp [sv_FQk, sv_FQ, sv_evs, sv_ev, sv_evT, sv_nth, sv_adq, sv_gs, q_Ks_8, q_Q_8] at h1
  have h2 := hf _ (List.mem_of_getElem? (i := 2) rfl)
  simp [sv_FQk, sv_FQ, sv_evs, sv_ev, sv_evT, sv_nth, sv_adq, sv_gs] at h2
  have h3 := hf _ (List.mem_of_getElem? (i := 3) rfl)
  simp [sv_FQk, sv_FQ, sv_evs, sv_ev, sv_evT, sv_nth, sv_adq, sv_gs] at h3
  clear hf
  rw [sv_Qpw_iff] at h0
  rw [sv_Qpw_iff] at h1
  intro f hf
  have hf : f ∈ [(0, [], [(0, [(1, 1), (3, -3)])])] := hf
  simp only [List.mem_cons, List.not_mem_nil, or_false] at hf
  subst hf
  · simp [sv_FQk, sv_FQ, sv_evs, sv_ev, sv_evT, sv_nth, sv_adq, sv_gs]
    rw [h0, h1]
    have := sv_pow3_lt (v := xv) (w := xw) (by omega) (by omega)
    omega
-- sm_0
def q_l55 : SvM := ([(0, none), (-1180591620717411303424, none), (-1180591620717411303424, none)], [(1, [58], [(0, [(0, 1)])]), (0, [], [(0, [(1, -1)])]), (0, [], [(0, [(2, -1)])]), (0, [], [(0, [(2, 1)])])], [(25, [], [(0, [(0, 1)]), (0, [(1, 1)]), (0, [(2, 1)])])])
theorem q_l55_ok : ∀ (g : Int → Int → Int) (ln : Int → Int) (kf : Int → Nat) (ρ : List Int), sv_BOk ρ q_l55.1 → (∀ f ∈ q_l55.2.1, sv_FQk q_Ks q_Q g ln kf ρ f) → ∀ f ∈ q_l55.2.2, sv_FQk q_Ks q_Q g ln kf ρ f := by
  intro g ln kf ρ hb hf
  obtain ⟨hl, hb⟩ := hb
  obtain ⟨xa, r0, rfl, l0⟩ := sv_lens hl
  obtain ⟨xn, r1, rfl, l1⟩ := sv_lens l0
  obtain ⟨xs, r2, rfl, l2⟩ := sv_lens l1
  obtain rfl := sv_len0 l2
  clear l0 l1 l2 hl
  have ba : 0 ≤ xa := (hb 0 _ _ rfl rfl).1
  clear hb
  have h0 := hf _ (List.mem_of_getElem? (i := 0) rfl)
  simp [sv_FQk, sv_FQ, sv_evs, sv_ev, sv_evT, sv_nth, sv_adq, sv_gs] at h0
  have h1 := hf _ (List.mem_of_getElem? (i := 1) rfl)
  simp [sv_FQk, sv_FQ, sv_evs, sv_ev, sv_evT, sv_nth, sv_adq, sv_gs] at h1
  have h2 := hf _ (List.mem_of_getElem? (i := 2) rfl)
  simp [sv_FQk, sv_FQ, sv_evs, sv_ev, sv_evT, sv_nth, sv_adq, sv_gs] at h2
  have h3 := hf _ (List.mem_of_getElem? (i := 3) rfl)
  simp [sv_FQk, sv_FQ, sv_evs, sv_ev, sv_evT, sv_nth, sv_adq, sv_gs] at h3
  clear hf
  have Ka : kf xa = 58 := by omega
  intro f hf
  have hf : f ∈ [(25, [], [(0, [(0, 1)]), (0, [(1, 1)]), (0, [(2, 1)])])] := hf
  simp only [List.mem_cons, List.not_mem_nil, or_false] at hf
  subst hf
  · simp [sv_FQk, sv_FQ, sv_evs, sv_ev, sv_evT, sv_nth, sv_adq, sv_gs, q_Ks_9, q_Q_9]
    refine ⟨⟨ba, Ka⟩, ?_⟩
    rw [sv_Qsm_iff]
    have e : xn.toNat = 0 := by omega
    rw [e]
    simp only [sv_sum]
    omega
-- sm_p
def q_l56 : SvM := ([(0, none), (-1180591620717411303424, none), (-1180591620717411303424, none), (-1180591620717411303424, none), (-1180591620717411303424, none), (-1180591620717411303424, none)], [(25, [], [(0, [(0, 1)]), (1, [(1, 1)]), (0, [(2, 1)])]), (4, [58, 1], [(0, [(0, 1)]), (0, [(1, 1)]), (0, [(3, 1)])]), (2, [], [(0, [(0, 1)]), (0, [(5, 1)])]), (0, [], [(0, [(1, 1)])]), (0, [], [(-1, [(1, -1), (5, 1)])]), (24, [], [(0, [(3, 1)]), (0, [(4, 1)])])], [(25, [], [(0, [(0, 1)]), (0, [(1, 1)]), (0, [(2, 1), (4, -1)])]), (0, [], [(0, [(2, 1), (4, -1)])])])
theorem q_l56_ok : ∀ (g : Int → Int → Int) (ln : Int → Int) (kf : Int → Nat) (ρ : List Int), sv_BOk ρ q_l56.1 → (∀ f ∈ q_l56.2.1, sv_FQk q_Ks q_Q g ln kf ρ f) → ∀ f ∈ q_l56.2.2, sv_FQk q_Ks q_Q g ln kf ρ f := by
  intro g ln kf ρ hb hf
  obtain ⟨hl, hb⟩ := hb
  obtain ⟨xa, r0, rfl, l0⟩ := sv_lens hl
  obtain ⟨xn, r1, rfl, l1⟩ := sv_lens l0
  obtain ⟨xs, r2, rfl, l2⟩ := sv_lens l1
  obtain ⟨xw, r3, rfl, l3⟩ := sv_lens l2
  obtain ⟨xe, r4, rfl, l4⟩ := sv_lens l3
  obtain ⟨xNA, r5, rfl, l5⟩ := sv_lens l4
  obtain rfl := sv_len0 l5
  clear l0 l1 l2 l3 l4 l5 hl
  have ba : 0 ≤ xa := (hb 0 _ _ rfl rfl).1
  clear hb
  have h0 := hf _ (List.mem_of_getElem? (i := 0) rfl)
  simp [sv_FQk, sv_FQ, sv_evs, sv_ev, sv_evT, sv_nth, sv_adq, sv_gs, q_Ks_9, q_Q_9] at h0
  have h1 := hf _ (List.mem_of_getElem? (i := 1) rfl)
  simp [sv_FQk, sv_FQ, sv_evs, sv_ev, sv_evT, sv_nth, sv_adq, sv_gs] at h1
  have h2 := hf _ (List.mem_of_getElem? (i := 2) rfl)
  simp [sv_FQk, sv_FQ, sv_evs, sv_ev, sv_evT, sv_nth, sv_adq, sv_gs] at h2
  have h3 := hf _ (List.mem_of_getElem? (i := 3) rfl)
  simp [sv_FQk, sv_FQ, sv_evs, sv_ev, sv_evT, sv_nth, sv_adq, sv_gs] at h3
  have h4 := hf _ (List.mem_of_getElem? (i := 4) rfl)
  simp [sv_FQk, sv_FQ, sv_evs, sv_ev, sv_evT, sv_nth, sv_adq, sv_gs] at h4
  have h5 := hf _ (List.mem_of_getElem? (i := 5) rfl)
  simp [sv_FQk, sv_FQ, sv_evs, sv_ev, sv_evT, sv_nth, sv_adq, sv_gs, q_Ks_8, q_Q_8] at h5
  clear hf
  obtain ⟨⟨-, Ka⟩, h0⟩ := h0
  rw [sv_Qsm_iff] at h0
  replace h1 := h1 ba (by omega) (by have := h2 ba; omega)
  rw [sv_Qpw_iff] at h5
  intro f hf
  have hf : f ∈ [(25, [], [(0, [(0, 1)]), (0, [(1, 1)]), (0, [(2, 1), (4, -1)])]), (0, [], [(0, [(2, 1), (4, -1)])])] := hf
  simp only [List.mem_cons, List.not_mem_nil, or_false] at hf
  rcases hf with rfl | rfl
  · simp [sv_FQk, sv_FQ, sv_evs, sv_ev, sv_evT, sv_nth, sv_adq, sv_gs, q_Ks_9, q_Q_9]
    refine ⟨⟨ba, Ka⟩, ?_⟩
    rw [sv_Qsm_iff]
    rw [sv_sum_step2 (by omega)] at h0
    simp only [h1] at h0
    omega
  · simp [sv_FQk, sv_FQ, sv_evs, sv_ev, sv_evT, sv_nth, sv_adq, sv_gs]
    rw [sv_sum_step2 (by omega)] at h0
    simp only [h1] at h0
    have := sv_sum_nonneg (f := fun i => sv_pow3 (g xa i)) (fun i => by have := sv_pow3_pos (g xa i); omega) xn.toNat
    omega
-- en_el
def q_l57 : SvM := ([(0, none), (0, none), (-1180591620717411303424, none), (-1180591620717411303424, none), (-1180591620717411303424, none), (-1180591620717411303424, none), (-1180591620717411303424, none), (-1180591620717411303424, none), (-1180591620717411303424, none), (-1180591620717411303424, none), (-1180591620717411303424, none)], [(26, [], [(0, [(0, 1)]), (0, [(1, 1)]), (0, [(2, 1)]), (0, [(3, 1)]), (0, [(4, 1)]), (0, [(5, 1)])]), (4, [106, 1], [(0, [(0, 1)]), (0, [(6, 1)]), (0, [(7, 1)])]), (4, [107, 1], [(0, [(1, 1)]), (0, [(6, 1)]), (0, [(8, 1)])]), (2, [], [(0, [(0, 1)]), (0, [(9, 1)])]), (2, [], [(0, [(1, 1)]), (0, [(10, 1)])]), (0, [], [(0, [(2, -1), (6, 1)])]), (0, [], [(-1, [(3, 1), (6, -1)])]), (0, [], [(0, [(6, 1)])]), (0, [], [(-1, [(6, -1), (9, 1)])]), (0, [], [(-1, [(6, -1), (10, 1)])])], [(0, [], [(0, [(4, -1), (7, 1), (8, 1)])]), (0, [], [(0, [(5, 1), (7, -1), (8, -1)])])])
theorem q_l57_ok : ∀ (g : Int → Int → Int) (ln : Int → Int) (kf : Int → Nat) (ρ : List Int), sv_BOk ρ q_l57.1 → (∀ f ∈ q_l57.2.1, sv_FQk q_Ks q_Q g ln kf ρ f) → ∀ f ∈ q_l57.2.2, sv_FQk q_Ks q_Q g ln kf ρ f := by
  intro g ln kf ρ hb hf
  obtain ⟨hl, hb⟩ := hb
  obtain ⟨xa, r0, rfl, l0⟩ := sv_lens hl
  obtain ⟨xb, r1, rfl, l1⟩ := sv_lens l0
  obtain ⟨xlo, r2, rfl, l2⟩ := sv_lens l1
  obtain ⟨xhi, r3, rfl, l3⟩ := sv_lens l2
  obtain ⟨xl, r4, rfl, l4⟩ := sv_lens l3
  obtain ⟨xu, r5, rfl, l5⟩ := sv_lens l4
  obtain ⟨xi, r6, rfl, l6⟩ := sv_lens l5
  obtain ⟨xx, r7, rfl, l7⟩ := sv_lens l6
  obtain ⟨xy, r8, rfl, l8⟩ := sv_lens l7
  obtain ⟨xN, r9, rfl, l9⟩ := sv_lens l8
  obtain ⟨xM, r10, rfl, l10⟩ := sv_lens l9
  obtain rfl := sv_len0 l10
  clear l0 l1 l2 l3 l4 l5 l6 l7 l8 l9 l10 hl
  have ba : 0 ≤ xa := (hb 0 _ _ rfl rfl).1
  have bb : 0 ≤ xb := (hb 1 _ _ rfl rfl).1
  clear hb
  have h0 := hf _ (List.mem_of_getElem? (i := 0) rfl)
  simp [sv_FQk, sv_FQ, sv_evs, sv_ev, sv_evT, sv_nth, sv_adq, sv_gs, q_Ks_10, q_Q_10] at h0
  have h1 := hf _ (List.mem_of_getElem? (i := 1) rfl)
  simp [sv_FQk, sv_FQ, sv_evs, sv_ev, sv_evT, sv_nth, sv_adq, sv_gs] at h1
  have h2 := hf _ (List.mem_of_getElem? (i := 2) rfl)
  simp [sv_FQk, sv_FQ, sv_evs, sv_ev, sv_evT, sv_nth, sv_adq, sv_gs] at h2
  have h3 := hf _ (List.mem_of_getElem? (i := 3) rfl)
  simp [sv_FQk, sv_FQ, sv_evs, sv_ev, sv_evT, sv_nth, sv_adq, sv_gs] at h3
  have h4 := hf _ (List.mem_of_getElem? (i := 4) rfl)
  simp [sv_FQk, sv_FQ, sv_evs, sv_ev, sv_evT, sv_nth, sv_adq, sv_gs] at h4
  have h5 := hf _ (List.mem_of_getElem? (i := 5) rfl)
  simp [sv_FQk, sv_FQ, sv_evs, sv_ev, sv_evT, sv_nth, sv_adq, sv_gs] at h5
  have h6 := hf _ (List.mem_of_getElem? (i := 6) rfl)
  simp [sv_FQk, sv_FQ, sv_evs, sv_ev, sv_evT, sv_nth, sv_adq, sv_gs] at h6
  have h7 := hf _ (List.mem_of_getElem? (i := 7) rfl)
  simp [sv_FQk, sv_FQ, sv_evs, sv_ev, sv_evT, sv_nth, sv_adq, sv_gs] at h7
  have h8 := hf _ (List.mem_of_getElem? (i := 8) rfl)
  simp [sv_FQk, sv_FQ, sv_evs, sv_ev, sv_evT, sv_nth, sv_adq, sv_gs] at h8
  have h9 := hf _ (List.mem_of_getElem? (i := 9) rfl)
  simp [sv_FQk, sv_FQ, sv_evs, sv_ev, sv_evT, sv_nth, sv_adq, sv_gs] at h9
  clear hf
  obtain ⟨⟨⟨-, Ka⟩, ⟨-, Kb⟩⟩, h0⟩ := h0
  rw [sv_Qlin2_iff] at h0
  replace h1 := h1 ba (by omega) (by have := h3 ba; omega)
  replace h2 := h2 bb (by omega) (by have := h4 bb; omega)
  intro f hf
  have hf : f ∈ [(0, [], [(0, [(4, -1), (7, 1), (8, 1)])]), (0, [], [(0, [(5, 1), (7, -1), (8, -1)])])] := hf
  simp only [List.mem_cons, List.not_mem_nil, or_false] at hf
  rcases hf with rfl | rfl
  · simp [sv_FQk, sv_FQ, sv_evs, sv_ev, sv_evT, sv_nth, sv_adq, sv_gs]
    have q := h0 xi (by omega) (by omega)
    rw [h1, h2] at q
    omega
  · simp [sv_FQk, sv_FQ, sv_evs, sv_ev, sv_evT, sv_nth, sv_adq, sv_gs]
    have q := h0 xi (by omega) (by omega)
    rw [h1, h2] at q
    omega
-- en_0
def q_l58 : SvM := ([(0, none), (0, none), (-1180591620717411303424, none), (-1180591620717411303424, none), (-1180591620717411303424, none), (-1180591620717411303424, none)], [(1, [106], [(0, [(0, 1)])]), (1, [107], [(0, [(1, 1)])]), (0, [], [(0, [(2, 1), (3, -1)])])], [(26, [], [(0, [(0, 1)]), (0, [(1, 1)]), (0, [(2, 1)]), (0, [(3, 1)]), (0, [(4, 1)]), (0, [(5, 1)])])])
theorem q_l58_ok : ∀ (g : Int → Int → Int) (ln : Int → Int) (kf : Int → Nat) (ρ : List Int), sv_BOk ρ q_l58.1 → (∀ f ∈ q_l58.2.1, sv_FQk q_Ks q_Q g ln kf ρ f) → ∀ f ∈ q_l58.2.2, sv_FQk q_Ks q_Q g ln kf ρ f := by
  intro g ln kf ρ hb hf
  obtain ⟨hl, hb⟩ := hb
  obtain ⟨xa, r0, rfl, l0⟩ := sv_lens hl
  obtain ⟨xb, r1, rfl, l1⟩ := sv_lens l0
  obtain ⟨xlo, r2, rfl, l2⟩ := sv_lens l1
  obtain ⟨xhi, r3, rfl, l3⟩ := sv_lens l2
  obtain ⟨xl, r4, rfl, l4⟩ := sv_lens l3
  obtain ⟨xu, r5, rfl, l5⟩ := sv_lens l4
  obtain rfl := sv_len0 l5
  clear l0 l1 l2 l3 l4 l5 hl
  have ba : 0 ≤ xa := (hb 0 _ _ rfl rfl).1
  have bb : 0 ≤ xb := (hb 1 _ _ rfl rfl).1
  clear hb
  have h0 := hf _ (List.mem_of_getElem? (i := 0) rfl)
  simp [sv_FQk, sv_FQ, sv_evs, sv_ev, sv_evT, sv_nth, sv_adq, sv_gs] at h0
  have h1 := hf _ (List.mem_of_getElem? (i := 1) rfl)
  simp [sv_FQk, sv_FQ, sv_evs, sv_ev, sv_evT, sv_nth, sv_adq, sv_gs] at h1
  have h2 := hf _ (List.mem_of_getElem? (i := 2) rfl)
  simp [sv_FQk, sv_FQ, sv_evs, sv_ev, sv_evT, sv_nth, sv_adq, sv_gs] at h2
  clear hf
  have Ka : kf xa = 106 := by omega
  have Kb : kf xb = 107 := by omega
  intro f hf
  have hf : f ∈ [(26, [], [(0, [(0, 1)]), (0, [(1, 1)]), (0, [(2, 1)]), (0, [(3, 1)]), (0, [(4, 1)]), (0, [(5, 1)])])] := hf
  simp only [List.mem_cons, List.not_mem_nil, or_false] at hf
  subst hf
  · simp [sv_FQk, sv_FQ, sv_evs, sv_ev, sv_evT, sv_nth, sv_adq, sv_gs, q_Ks_10, q_Q_10]
    refine ⟨⟨⟨ba, Ka⟩, ⟨bb, Kb⟩⟩, ?_⟩
    rw [sv_Qlin2_iff]
    intro j j1 j2
    omega
-- en_w
def q_l59 : SvM := ([(0, none), (0, none), (-1180591620717411303424, none), (-1180591620717411303424, none), (-1180591620717411303424, none), (-1180591620717411303424, none), (-1180591620717411303424, none), (-1180591620717411303424, none), (-1180591620717411303424, none), (-1180591620717411303424, none)], [(26, [], [(0, [(0, 1)]), (0, [(1, 1)]), (0, [(2, 1)]), (0, [(3, 1)]), (0, [(4, 1)]), (0, [(5, 1)])]), (0, [], [(0, [(2, -1), (6, 1)])]), (0, [], [(0, [(3, 1), (7, -1)])]), (0, [], [(0, [(4, 1), (8, -1)])]), (0, [], [(0, [(5, -1), (9, 1)])])], [(26, [], [(0, [(0, 1)]), (0, [(1, 1)]), (0, [(6, 1)]), (0, [(7, 1)]), (0, [(8, 1)]), (0, [(9, 1)])])])
theorem q_l59_ok : ∀ (g : Int → Int → Int) (ln : Int → Int) (kf : Int → Nat) (ρ : List Int), sv_BOk ρ q_l59.1 → (∀ f ∈ q_l59.2.1, sv_FQk q_Ks q_Q g ln kf ρ f) → ∀ f ∈ q_l59.2.2, sv_FQk q_Ks q_Q g ln kf ρ f := by
  intro g ln kf ρ hb hf
  obtain ⟨hl, hb⟩ := hb
  obtain ⟨xa, r0, rfl, l0⟩ := sv_lens hl
  obtain ⟨xb, r1, rfl, l1⟩ := sv_lens l0
  obtain ⟨xlo, r2, rfl, l2⟩ := sv_lens l1
  obtain ⟨xhi, r3, rfl, l3⟩ := sv_lens l2
  obtain ⟨xl, r4, rfl, l4⟩ := sv_lens l3
  obtain ⟨xu, r5, rfl, l5⟩ := sv_lens l4
  obtain ⟨xlp, r6, rfl, l6⟩ := sv_lens l5
  obtain ⟨xhp, r7, rfl, l7⟩ := sv_lens l6
  obtain ⟨xkp, r8, rfl, l8⟩ := sv_lens l7
  obtain ⟨xup, r9, rfl, l9⟩ := sv_lens l8
  obtain rfl := sv_len0 l9
  clear l0 l1 l2 l3 l4 l5 l6 l7 l8 l9 hl
  have ba : 0 ≤ xa := (hb 0 _ _ rfl rfl).1
  have bb : 0 ≤ xb := (hb 1 _ _ rfl rfl).1
  clear hb
  have h0 := hf _ (List.mem_of_getElem? (i := 0) rfl)
  simp [sv_FQk, sv_FQ, sv_evs, sv_ev, sv_evT, sv_nth, sv_adq, sv_gs, q_Ks_10, q_Q_10] at h0
  have h1 := hf _ (List.mem_of_getElem? (i := 1) rfl)
  simp [sv_FQk, sv_FQ, sv_evs, sv_ev, sv_evT, sv_nth, sv_adq, sv_gs] at h1
  have h2 := hf _ (List.mem_of_getElem? (i := 2) rfl)
  simp [sv_FQk, sv_FQ, sv_evs, sv_ev, sv_evT, sv_nth, sv_adq, sv_gs] at h2
  have h3 := hf _ (List.mem_of_getElem? (i := 3) rfl)
  simp [sv_FQk, sv_FQ, sv_evs, sv_ev, sv_evT, sv_nth, sv_adq, sv_gs] at h3
  have h4 := hf _ (List.mem_of_getElem? (i := 4) rfl)
  simp [sv_FQk, sv_FQ, sv_evs, sv_ev, sv_evT, sv_nth, sv_adq, sv_gs] at h4
  clear hf
  obtain ⟨⟨⟨-, Ka⟩, ⟨-, Kb⟩⟩, h0⟩ := h0
  rw [sv_Qlin2_iff] at h0
  intro f hf
  have hf : f ∈ [(26, [], [(0, [(0, 1)]), (0, [(1, 1)]), (0, [(6, 1)]), (0, [(7, 1)]), (0, [(8, 1)]), (0, [(9, 1)])])] := hf
  simp only [List.mem_cons, List.not_mem_nil, or_false] at hf
  subst hf
  · simp [sv_FQk, sv_FQ, sv_evs, sv_ev, sv_evT, sv_nth, sv_adq, sv_gs, q_Ks_10, q_Q_10]
    refine ⟨⟨⟨ba, Ka⟩, ⟨bb, Kb⟩⟩, ?_⟩
    rw [sv_Qlin2_iff]
    intro j j1 j2
    have q := h0 j (by omega) (by omega)
    omega
