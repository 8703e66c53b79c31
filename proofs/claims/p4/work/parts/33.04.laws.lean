-- ===== laws of opaque facts =====
-- oa_j
def q_l120 : SvM := ([(0, none), (-1180591620717411303424, none), (-1180591620717411303424, none), (-1180591620717411303424, none), (-1180591620717411303424, none), (-1180591620717411303424, none)], [(39, [], [(0, [(0, 1)]), (0, [(1, 1)]), (0, [(2, 1)]), (0, [(4, 1)]), (0, [(5, 1)])]), (39, [], [(0, [(0, 1)]), (0, [(2, 1)]), (0, [(3, 1)]), (0, [(4, 1)]), (0, [(5, 1)])])], [(39, [], [(0, [(0, 1)]), (0, [(1, 1)]), (0, [(3, 1)]), (0, [(4, 1)]), (0, [(5, 1)])])])
theorem q_l120_ok : ∀ (g : Int → Int → Int) (ln : Int → Int) (kf : Int → Nat) (ρ : List Int), sv_BOk ρ q_l120.1 → (∀ f ∈ q_l120.2.1, sv_FQk q_Ks q_Q g ln kf ρ f) → ∀ f ∈ q_l120.2.2, sv_FQk q_Ks q_Q g ln kf ρ f := by
  intro g ln kf ρ hb hf
  obtain ⟨hl, hb⟩ := hb
  obtain ⟨xa, r0, rfl, l0⟩ := sv_lens hl
  obtain ⟨xlo, r1, rfl, l1⟩ := sv_lens l0
  obtain ⟨xmi, r2, rfl, l2⟩ := sv_lens l1
  obtain ⟨xhi, r3, rfl, l3⟩ := sv_lens l2
  obtain ⟨xl, r4, rfl, l4⟩ := sv_lens l3
  obtain ⟨xu, r5, rfl, l5⟩ := sv_lens l4
  obtain rfl := sv_len0 l5
  clear l0 l1 l2 l3 l4 l5 hl
  have ba : 0 ≤ xa := (hb 0 _ _ rfl rfl).1
  clear hb
  have h0 := hf _ (List.mem_of_getElem? (i := 0) rfl)
  simp [sv_FQk, sv_FQ, sv_evs, sv_ev, sv_evT, sv_nth, sv_adq, sv_gs, q_Ks_23, q_Q_23] at h0
  have h1 := hf _ (List.mem_of_getElem? (i := 1) rfl)
  simp [sv_FQk, sv_FQ, sv_evs, sv_ev, sv_evT, sv_nth, sv_adq, sv_gs, q_Ks_23, q_Q_23] at h1
  clear hf
  obtain ⟨⟨-, Ka⟩, h0⟩ := h0
  rw [sv_Qlin_iff] at h0
  obtain ⟨⟨-, Ka⟩, h1⟩ := h1
  rw [sv_Qlin_iff] at h1
  intro f hf
  have hf : f ∈ [(39, [], [(0, [(0, 1)]), (0, [(1, 1)]), (0, [(3, 1)]), (0, [(4, 1)]), (0, [(5, 1)])])] := hf
  simp only [List.mem_cons, List.not_mem_nil, or_false] at hf
  subst hf
  · simp [sv_FQk, sv_FQ, sv_evs, sv_ev, sv_evT, sv_nth, sv_adq, sv_gs, q_Ks_23, q_Q_23]
    refine ⟨⟨ba, Ka⟩, ?_⟩
    rw [sv_Qlin_iff]
    intro j j1 j2
    by_cases e : j < xmi
    · exact h0 j j1 e
    · exact h1 j (by omega) j2
-- oa_app
def q_l121 : SvM := ([(0, none), (-1180591620717411303424, none), (-1180591620717411303424, none), (-1180591620717411303424, none), (-1180591620717411303424, none), (-1180591620717411303424, none), (-1180591620717411303424, none)], [(39, [], [(0, [(0, 1)]), (0, [(1, 1)]), (0, [(2, 1)]), (0, [(3, 1)]), (0, [(4, 1)])]), (4, [128, 1], [(0, [(0, 1)]), (0, [(2, 1)]), (0, [(5, 1)])]), (2, [], [(0, [(0, 1)]), (0, [(6, 1)])]), (0, [], [(0, [(2, 1)])]), (0, [], [(-1, [(2, -1), (6, 1)])]), (0, [], [(0, [(3, -1), (5, 1)])]), (0, [], [(0, [(4, 1), (5, -1)])])], [(39, [], [(0, [(0, 1)]), (0, [(1, 1)]), (1, [(2, 1)]), (0, [(3, 1)]), (0, [(4, 1)])])])
theorem q_l121_ok : ∀ (g : Int → Int → Int) (ln : Int → Int) (kf : Int → Nat) (ρ : List Int), sv_BOk ρ q_l121.1 → (∀ f ∈ q_l121.2.1, sv_FQk q_Ks q_Q g ln kf ρ f) → ∀ f ∈ q_l121.2.2, sv_FQk q_Ks q_Q g ln kf ρ f := by
  intro g ln kf ρ hb hf
  obtain ⟨hl, hb⟩ := hb
  obtain ⟨xa, r0, rfl, l0⟩ := sv_lens hl
  obtain ⟨xlo, r1, rfl, l1⟩ := sv_lens l0
  obtain ⟨xhi, r2, rfl, l2⟩ := sv_lens l1
  obtain ⟨xl, r3, rfl, l3⟩ := sv_lens l2
  obtain ⟨xu, r4, rfl, l4⟩ := sv_lens l3
  obtain ⟨xx, r5, rfl, l5⟩ := sv_lens l4
  obtain ⟨xN, r6, rfl, l6⟩ := sv_lens l5
  obtain rfl := sv_len0 l6
  clear l0 l1 l2 l3 l4 l5 l6 hl
  have ba : 0 ≤ xa := (hb 0 _ _ rfl rfl).1
  clear hb
  have h0 := hf _ (List.mem_of_getElem? (i := 0) rfl)
  simp [sv_FQk, sv_FQ, sv_evs, sv_ev, sv_evT, sv_nth, sv_adq, sv_gs, q_Ks_23, q_Q_23] at h0
  have h1 := hf _ (List.mem_of_getElem? (i := 1) rfl)
  simp [sv_FQk, sv_FQ, sv_evs, sv_ev, sv_evT, sv_nth, sv_adq, sv_gs] at h1
  have h2 := hf _ (List.mem_of_getElem? (i := 2) rfl)
  simp [sv_FQk, sv_FQ, sv_evs, sv_ev, sv_evT, sv_nth, sv_adq, sv_gs] at h2
  have h3 := hf _ (List.mem_of_getElem? (i := 3) rfl)
  simp [sv_FQk, sv_FQ, sv_evs, sv_ev, sv_evT, sv_nth, sv_adq, sv_gs] at h3
  have h4 := hf _ (List.mem_of_getElem? (i := 4) rfl)
  simp [sv_FQk, sv_FQ, sv_evs, sv_ev, sv_evT, sv_nth, sv_adq, sv_gs] at h4
  have h5 := hf _ (List.mem_of_getElem? (i := 5) rfl)
  simp [sv_FQk, sv_FQ, sv_evs, sv_ev, sv_evT, sv_nth, sv_adq, sv_gs] at h5
  have h6 := hf _ (List.mem_of_getElem? (i := 6) rfl)
  simp [sv_FQk, sv_FQ, sv_evs, sv_ev, sv_evT, sv_nth, sv_adq, sv_gs] at h6
  clear hf
  obtain ⟨⟨-, Ka⟩, h0⟩ := h0
  rw [sv_Qlin_iff] at h0
  replace h1 := h1 ba (by omega) (by have := h2 ba; omega)
  intro f hf
  have hf : f ∈ [(39, [], [(0, [(0, 1)]), (0, [(1, 1)]), (1, [(2, 1)]), (0, [(3, 1)]), (0, [(4, 1)])])] := hf
  simp only [List.mem_cons, List.not_mem_nil, or_false] at hf
  subst hf
  · simp [sv_FQk, sv_FQ, sv_evs, sv_ev, sv_evT, sv_nth, sv_adq, sv_gs, q_Ks_23, q_Q_23]
    refine ⟨⟨ba, Ka⟩, ?_⟩
    rw [sv_Qlin_iff]
    intro j j1 j2
    by_cases e : j = xhi
    · subst e
      rw [h1]
      omega
    · exact h0 j j1 (by omega)
-- oa_aw
def q_l122 : SvM := ([(0, none), (-1180591620717411303424, none), (-1180591620717411303424, none), (-1180591620717411303424, none), (-1180591620717411303424, none), (-1180591620717411303424, none), (-1180591620717411303424, none), (-1180591620717411303424, none)], [(39, [], [(0, [(0, 1)]), (0, [(1, 1)]), (0, [(2, 1)]), (0, [(3, 1)]), (0, [(4, 1)])]), (4, [128, 1], [(0, [(0, 1)]), (0, [(2, 1)]), (0, [(5, 1)])]), (2, [], [(0, [(0, 1)]), (0, [(6, 1)])]), (0, [], [(0, [(2, 1)])]), (0, [], [(-1, [(2, -1), (6, 1)])]), (0, [], [(0, [(4, -1), (7, 1)])]), (0, [], [(0, [(3, -1), (5, 1)])]), (0, [], [(0, [(5, -1), (7, 1)])])], [(39, [], [(0, [(0, 1)]), (0, [(1, 1)]), (1, [(2, 1)]), (0, [(3, 1)]), (0, [(7, 1)])])])
theorem q_l122_ok : ∀ (g : Int → Int → Int) (ln : Int → Int) (kf : Int → Nat) (ρ : List Int), sv_BOk ρ q_l122.1 → (∀ f ∈ q_l122.2.1, sv_FQk q_Ks q_Q g ln kf ρ f) → ∀ f ∈ q_l122.2.2, sv_FQk q_Ks q_Q g ln kf ρ f := by
  intro g ln kf ρ hb hf
  obtain ⟨hl, hb⟩ := hb
  obtain ⟨xa, r0, rfl, l0⟩ := sv_lens hl
  obtain ⟨xlo, r1, rfl, l1⟩ := sv_lens l0
  obtain ⟨xhi, r2, rfl, l2⟩ := sv_lens l1
  obtain ⟨xl, r3, rfl, l3⟩ := sv_lens l2
  obtain ⟨xu, r4, rfl, l4⟩ := sv_lens l3
  obtain ⟨xx, r5, rfl, l5⟩ := sv_lens l4
  obtain ⟨xN, r6, rfl, l6⟩ := sv_lens l5
  obtain ⟨xup, r7, rfl, l7⟩ := sv_lens l6
  obtain rfl := sv_len0 l7
  clear l0 l1 l2 l3 l4 l5 l6 l7 hl
  have ba : 0 ≤ xa := (hb 0 _ _ rfl rfl).1
  clear hb
  have h0 := hf _ (List.mem_of_getElem? (i := 0) rfl)
  simp [sv_FQk, sv_FQ, sv_evs, sv_ev, sv_evT, sv_nth, sv_adq, sv_gs, q_Ks_23, q_Q_23] at h0
  have h1 := hf _ (List.mem_of_getElem? (i := 1) rfl)
  simp [sv_FQk, sv_FQ, sv_evs, sv_ev, sv_evT, sv_nth, sv_adq, sv_gs] at h1
  have h2 := hf _ (List.mem_of_getElem? (i := 2) rfl)
  simp [sv_FQk, sv_FQ, sv_evs, sv_ev, sv_evT, sv_nth, sv_adq, sv_gs] at h2
  have h3 := hf _ (List.mem_of_getElem? (i := 3) rfl)
  simp [sv_FQk, sv_FQ, sv_evs, sv_ev, sv_evT, sv_nth, sv_adq, sv_gs] at h3
  have h4 := hf _ (List.mem_of_getElem? (i := 4) rfl)
  simp [sv_FQk, sv_FQ, sv_evs, sv_ev, sv_evT, sv_nth, sv_adq, sv_gs] at h4
  have h5 := hf _ (List.mem_of_getElem? (i := 5) rfl)
  simp [sv_FQk, sv_FQ, sv_evs, sv_ev, sv_evT, sv_nth, sv_adq, sv_gs] at h5
  have h6 := hf _ (List.mem_of_getElem? (i := 6) rfl)
  simp [sv_FQk, sv_FQ, sv_evs, sv_ev, sv_evT, sv_nth, sv_adq, sv_gs] at h6
  have h7 := hf _ (List.mem_of_getElem? (i := 7) rfl)
  simp [sv_FQk, sv_FQ, sv_evs, sv_ev, sv_evT, sv_nth, sv_adq, sv_gs] at h7
  clear hf
  obtain ⟨⟨-, Ka⟩, h0⟩ := h0
  rw [sv_Qlin_iff] at h0
  replace h1 := h1 ba (by omega) (by have := h2 ba; omega)
  intro f hf
  have hf : f ∈ [(39, [], [(0, [(0, 1)]), (0, [(1, 1)]), (1, [(2, 1)]), (0, [(3, 1)]), (0, [(7, 1)])])] := hf
  simp only [List.mem_cons, List.not_mem_nil, or_false] at hf
  subst hf
  · simp [sv_FQk, sv_FQ, sv_evs, sv_ev, sv_evT, sv_nth, sv_adq, sv_gs, q_Ks_23, q_Q_23]
    refine ⟨⟨ba, Ka⟩, ?_⟩
    rw [sv_Qlin_iff]
    intro j j1 j2
    by_cases e : j = xhi
    · subst e
      rw [h1]
      omega
    · have q := h0 j j1 (by omega)
      omega
-- ak_0
def q_l123 : SvM := ([(0, none), (0, none), (-1180591620717411303424, none)], [(1, [130], [(0, [(0, 1)])]), (1, [132], [(0, [(1, 1)])]), (0, [], [(0, [(2, -1)])])], [(40, [], [(0, [(0, 1)]), (0, [(1, 1)]), (0, [(2, 1)])])])
theorem q_l123_ok : ∀ (g : Int → Int → Int) (ln : Int → Int) (kf : Int → Nat) (ρ : List Int), sv_BOk ρ q_l123.1 → (∀ f ∈ q_l123.2.1, sv_FQk q_Ks q_Q g ln kf ρ f) → ∀ f ∈ q_l123.2.2, sv_FQk q_Ks q_Q g ln kf ρ f := by
  intro g ln kf ρ hb hf
  obtain ⟨hl, hb⟩ := hb
  obtain ⟨xa, r0, rfl, l0⟩ := sv_lens hl
  obtain ⟨xb, r1, rfl, l1⟩ := sv_lens l0
  obtain ⟨xn, r2, rfl, l2⟩ := sv_lens l1
  obtain rfl := sv_len0 l2
  clear l0 l1 l2 hl
  have ba : 0 ≤ xa := (hb 0 _ _ rfl rfl).1
  have bb : 0 ≤ xb := (hb 1 _ _ rfl rfl).1
  clear hb
  have h0 := hf _ (List.mem_of_getElem? (i := 0) rfl)
  simp [sv_FQk, sv_FQ, sv_evs, sv_ev, sv_evT, sv_nth, sv_adq, sv_gs] at h0
  have h1 := hf _ (List.mem_of_getElem? (i := 1) rfl)
  simp [sv_FQk, sv_FQ, sv_evs, sv_ev, sv_evT, sv_nth, sv_adq, sv_gs] at h1
  have h2 := hf _ (List.mem_of_getElem? (i := 2) rfl)
  simp [sv_FQk, sv_FQ, sv_evs, sv_ev, sv_evT, sv_nth, sv_adq, sv_gs] at h2
  clear hf
  have Ka : kf xa = 130 := by omega
  have Kb : kf xb = 132 := by omega
  intro f hf
  have hf : f ∈ [(40, [], [(0, [(0, 1)]), (0, [(1, 1)]), (0, [(2, 1)])])] := hf
  simp only [List.mem_cons, List.not_mem_nil, or_false] at hf
  subst hf
  · simp [sv_FQk, sv_FQ, sv_evs, sv_ev, sv_evT, sv_nth, sv_adq, sv_gs, q_Ks_24, q_Q_24]
    refine ⟨⟨⟨ba, Ka⟩, ⟨bb, Kb⟩⟩, ?_⟩
    rw [sv_Qak_iff]
    intro i i1 i2
    omega
-- ak_1
def q_l124 : SvM := ([(0, none), (0, none), (-1180591620717411303424, none), (-1180591620717411303424, none), (-1180591620717411303424, none)], [(40, [], [(0, [(0, 1)]), (0, [(1, 1)]), (0, [(2, 1)])]), (4, [130, 1], [(0, [(0, 1)]), (0, [(2, 1)]), (0, [(3, 1)])]), (2, [], [(0, [(0, 1)]), (0, [(4, 1)])]), (0, [], [(0, [(2, 1)])]), (0, [], [(-1, [(2, -1), (4, 1)])]), (0, [], [(9, [(3, -1)])])], [(40, [], [(0, [(0, 1)]), (0, [(1, 1)]), (1, [(2, 1)])])])
theorem q_l124_ok : ∀ (g : Int → Int → Int) (ln : Int → Int) (kf : Int → Nat) (ρ : List Int), sv_BOk ρ q_l124.1 → (∀ f ∈ q_l124.2.1, sv_FQk q_Ks q_Q g ln kf ρ f) → ∀ f ∈ q_l124.2.2, sv_FQk q_Ks q_Q g ln kf ρ f := by
  intro g ln kf ρ hb hf
  obtain ⟨hl, hb⟩ := hb
  obtain ⟨xa, r0, rfl, l0⟩ := sv_lens hl
  obtain ⟨xb, r1, rfl, l1⟩ := sv_lens l0
  obtain ⟨xn, r2, rfl, l2⟩ := sv_lens l1
  obtain ⟨xx, r3, rfl, l3⟩ := sv_lens l2
  obtain ⟨xN, r4, rfl, l4⟩ := sv_lens l3
  obtain rfl := sv_len0 l4
  clear l0 l1 l2 l3 l4 hl
  have ba : 0 ≤ xa := (hb 0 _ _ rfl rfl).1
  have bb : 0 ≤ xb := (hb 1 _ _ rfl rfl).1
  clear hb
  have h0 := hf _ (List.mem_of_getElem? (i := 0) rfl)
  simp [sv_FQk, sv_FQ, sv_evs, sv_ev, sv_evT, sv_nth, sv_adq, sv_gs, q_Ks_24, q_Q_24] at h0
  have h1 := hf _ (List.mem_of_getElem? (i := 1) rfl)
  simp [sv_FQk, sv_FQ, sv_evs, sv_ev, sv_evT, sv_nth, sv_adq, sv_gs] at h1
  have h2 := hf _ (List.mem_of_getElem? (i := 2) rfl)
  simp [sv_FQk, sv_FQ, sv_evs, sv_ev, sv_evT, sv_nth, sv_adq, sv_gs] at h2
  have h3 := hf _ (List.mem_of_getElem? (i := 3) rfl)
  simp [sv_FQk, sv_FQ, sv_evs, sv_ev, sv_evT, sv_nth, sv_adq, sv_gs] at h3
  have h4 := hf _ (List.mem_of_getElem? (i := 4) rfl)
  simp [sv_FQk, sv_FQ, sv_evs, sv_ev, sv_evT, sv_nth, sv_adq, sv_gs] at h4
  have h5 := hf _ (List.mem_of_getElem? (i := 5) rfl)
  simp [sv_FQk, sv_FQ, sv_evs, sv_ev, sv_evT, sv_nth, sv_adq, sv_gs] at h5
  clear hf
  obtain ⟨⟨⟨-, Ka⟩, ⟨-, Kb⟩⟩, h0⟩ := h0
  rw [sv_Qak_iff] at h0
  replace h1 := h1 ba (by omega) (by have := h2 ba; omega)
  intro f hf
  have hf : f ∈ [(40, [], [(0, [(0, 1)]), (0, [(1, 1)]), (1, [(2, 1)])])] := hf
  simp only [List.mem_cons, List.not_mem_nil, or_false] at hf
  subst hf
  · simp [sv_FQk, sv_FQ, sv_evs, sv_ev, sv_evT, sv_nth, sv_adq, sv_gs, q_Ks_24, q_Q_24]
    refine ⟨⟨⟨ba, Ka⟩, ⟨bb, Kb⟩⟩, ?_⟩
    rw [sv_Qak_iff]
    intro i i1 i2 i3
    by_cases e : i = xn
    · rw [e] at i3 ⊢
      omega
    · exact h0 i i1 (by omega) i3
-- ak_2
def q_l125 : SvM := ([(0, none), (0, none), (-1180591620717411303424, none), (-1180591620717411303424, none), (-1180591620717411303424, none)], [(40, [], [(0, [(0, 1)]), (0, [(1, 1)]), (0, [(2, 1)])]), (4, [132, 1], [(0, [(1, 1)]), (0, [(2, 1)]), (0, [(3, 1)])]), (2, [], [(0, [(1, 1)]), (0, [(4, 1)])]), (0, [], [(0, [(2, 1)])]), (0, [], [(-1, [(2, -1), (4, 1)])]), (0, [], [(4000, [(3, -1)])])], [(40, [], [(0, [(0, 1)]), (0, [(1, 1)]), (1, [(2, 1)])])])
theorem q_l125_ok : ∀ (g : Int → Int → Int) (ln : Int → Int) (kf : Int → Nat) (ρ : List Int), sv_BOk ρ q_l125.1 → (∀ f ∈ q_l125.2.1, sv_FQk q_Ks q_Q g ln kf ρ f) → ∀ f ∈ q_l125.2.2, sv_FQk q_Ks q_Q g ln kf ρ f := by
  intro g ln kf ρ hb hf
  obtain ⟨hl, hb⟩ := hb
  obtain ⟨xa, r0, rfl, l0⟩ := sv_lens hl
  obtain ⟨xb, r1, rfl, l1⟩ := sv_lens l0
  obtain ⟨xn, r2, rfl, l2⟩ := sv_lens l1
  obtain ⟨xy, r3, rfl, l3⟩ := sv_lens l2
  obtain ⟨xN, r4, rfl, l4⟩ := sv_lens l3
  obtain rfl := sv_len0 l4
  clear l0 l1 l2 l3 l4 hl
  have ba : 0 ≤ xa := (hb 0 _ _ rfl rfl).1
  have bb : 0 ≤ xb := (hb 1 _ _ rfl rfl).1
  clear hb
  have h0 := hf _ (List.mem_of_getElem? (i := 0) rfl)
  simp [sv_FQk, sv_FQ, sv_evs, sv_ev, sv_evT, sv_nth, sv_adq, sv_gs, q_Ks_24, q_Q_24] at h0
  have h1 := hf _ (List.mem_of_getElem? (i := 1) rfl)
  simp [sv_FQk, sv_FQ, sv_evs, sv_ev, sv_evT, sv_nth, sv_adq, sv_gs] at h1
  have h2 := hf _ (List.mem_of_getElem? (i := 2) rfl)
  simp [sv_FQk, sv_FQ, sv_evs, sv_ev, sv_evT, sv_nth, sv_adq, sv_gs] at h2
  have h3 := hf _ (List.mem_of_getElem? (i := 3) rfl)
  simp [sv_FQk, sv_FQ, sv_evs, sv_ev, sv_evT, sv_nth, sv_adq, sv_gs] at h3
  have h4 := hf _ (List.mem_of_getElem? (i := 4) rfl)
  simp [sv_FQk, sv_FQ, sv_evs, sv_ev, sv_evT, sv_nth, sv_adq, sv_gs] at h4
  have h5 := hf _ (List.mem_of_getElem? (i := 5) rfl)
  simp [sv_FQk, sv_FQ, sv_evs, sv_ev, sv_evT, sv_nth, sv_adq, sv_gs] at h5
  clear hf
  obtain ⟨⟨⟨-, Ka⟩, ⟨-, Kb⟩⟩, h0⟩ := h0
  rw [sv_Qak_iff] at h0
  replace h1 := h1 bb (by omega) (by have := h2 bb; omega)
  intro f hf
  have hf : f ∈ [(40, [], [(0, [(0, 1)]), (0, [(1, 1)]), (1, [(2, 1)])])] := hf
  simp only [List.mem_cons, List.not_mem_nil, or_false] at hf
  subst hf
  · simp [sv_FQk, sv_FQ, sv_evs, sv_ev, sv_evT, sv_nth, sv_adq, sv_gs, q_Ks_24, q_Q_24]
    refine ⟨⟨⟨ba, Ka⟩, ⟨bb, Kb⟩⟩, ?_⟩
    rw [sv_Qak_iff]
    intro i i1 i2 i3
    by_cases e : i = xn
    · rw [e] at i3 ⊢
      omega
    · exact h0 i i1 (by omega) i3
-- ak_e
def q_l126 : SvM := ([(0, none), (0, none), (-1180591620717411303424, none), (-1180591620717411303424, none), (-1180591620717411303424, none), (-1180591620717411303424, none), (-1180591620717411303424, none), (-1180591620717411303424, none)], [(40, [], [(0, [(0, 1)]), (0, [(1, 1)]), (0, [(2, 1)])]), (4, [130, 1], [(0, [(0, 1)]), (0, [(3, 1)]), (0, [(4, 1)])]), (4, [132, 1], [(0, [(1, 1)]), (0, [(3, 1)]), (0, [(5, 1)])]), (2, [], [(0, [(0, 1)]), (0, [(6, 1)])]), (2, [], [(0, [(1, 1)]), (0, [(7, 1)])]), (0, [], [(0, [(3, 1)])]), (0, [], [(-1, [(2, 1), (3, -1)])]), (0, [], [(-1, [(3, -1), (6, 1)])]), (0, [], [(-1, [(3, -1), (7, 1)])]), (0, [], [(-10, [(4, 1)])]), (0, [], [(10, [(4, -1)])])], [(0, [], [(4000, [(5, -1)])])])
theorem q_l126_ok : ∀ (g : Int → Int → Int) (ln : Int → Int) (kf : Int → Nat) (ρ : List Int), sv_BOk ρ q_l126.1 → (∀ f ∈ q_l126.2.1, sv_FQk q_Ks q_Q g ln kf ρ f) → ∀ f ∈ q_l126.2.2, sv_FQk q_Ks q_Q g ln kf ρ f := by
  intro g ln kf ρ hb hf
  obtain ⟨hl, hb⟩ := hb
  obtain ⟨xa, r0, rfl, l0⟩ := sv_lens hl
  obtain ⟨xb, r1, rfl, l1⟩ := sv_lens l0
  obtain ⟨xn, r2, rfl, l2⟩ := sv_lens l1
  obtain ⟨xk, r3, rfl, l3⟩ := sv_lens l2
  obtain ⟨xx, r4, rfl, l4⟩ := sv_lens l3
  obtain ⟨xy, r5, rfl, l5⟩ := sv_lens l4
  obtain ⟨xN, r6, rfl, l6⟩ := sv_lens l5
  obtain ⟨xM, r7, rfl, l7⟩ := sv_lens l6
  obtain rfl := sv_len0 l7
  clear l0 l1 l2 l3 l4 l5 l6 l7 hl
  have ba : 0 ≤ xa := (hb 0 _ _ rfl rfl).1
  have bb : 0 ≤ xb := (hb 1 _ _ rfl rfl).1
  clear hb
  have h0 := hf _ (List.mem_of_getElem? (i := 0) rfl)
  simp [sv_FQk, sv_FQ, sv_evs, sv_ev, sv_evT, sv_nth, sv_adq, sv_gs, q_Ks_24, q_Q_24] at h0
  have h1 := hf _ (List.mem_of_getElem? (i := 1) rfl)
  simp [sv_FQk, sv_FQ, sv_evs, sv_ev, sv_evT, sv_nth, sv_adq, sv_gs] at h1
  have h2 := hf _ (List.mem_of_getElem? (i := 2) rfl)
  simp [sv_FQk, sv_FQ, sv_evs, sv_ev, sv_evT, sv_nth, sv_adq, sv_gs] at h2
  have h3 := hf _ (List.mem_of_getElem? (i := 3) rfl)
  simp [sv_FQk, sv_FQ, sv_evs, sv_ev, sv_evT, sv_nth, sv_adq, sv_gs] at h3
  have h4 := hf _ (List.mem_of_getElem? (i := 4) rfl)
  simp [sv_FQk, sv_FQ, sv_evs, sv_ev, sv_evT, sv_nth, sv_adq, sv_gs] at h4
  have h5 := hf _ (List.mem_of_getElem? (i := 5) rfl)
  simp [sv_FQk, sv_FQ, sv_evs, sv_ev, sv_evT, sv_nth, sv_adq, sv_gs] at h5
  have h6 := hf _ (List.mem_of_getElem? (i := 6) rfl)
  simp [sv_FQk, sv_FQ, sv_evs, sv_ev, sv_evT, sv_nth, sv_adq, sv_gs] at h6
  have h7 := hf _ (List.mem_of_getElem? (i := 7) rfl)
  simp [sv_FQk, sv_FQ, sv_evs, sv_ev, sv_evT, sv_nth, sv_adq, sv_gs] at h7
  have h8 := hf _ (List.mem_of_getElem? (i := 8) rfl)
  simp [sv_FQk, sv_FQ, sv_evs, sv_ev, sv_evT, sv_nth, sv_adq, sv_gs] at h8
  have h9 := hf _ (List.mem_of_getElem? (i := 9) rfl)
  simp [sv_FQk, sv_FQ, sv_evs, sv_ev, sv_evT, sv_nth, sv_adq, sv_gs] at h9
  have h10 := hf _ (List.mem_of_getElem? (i := 10) rfl)
  simp [sv_FQk, sv_FQ, sv_evs, sv_ev, sv_evT, sv_nth, sv_adq, sv_gs] at h10
  clear hf
  obtain ⟨⟨⟨-, Ka⟩, ⟨-, Kb⟩⟩, h0⟩ := h0
  rw [sv_Qak_iff] at h0
  replace h1 := h1 ba (by omega) (by have := h3 ba; omega)
  replace h2 := h2 bb (by omega) (by have := h4 bb; omega)
  intro f hf
  have hf : f ∈ [(0, [], [(4000, [(5, -1)])])] := hf
  simp only [List.mem_cons, List.not_mem_nil, or_false] at hf
  subst hf
  · simp [sv_FQk, sv_FQ, sv_evs, sv_ev, sv_evT, sv_nth, sv_adq, sv_gs]
    have q := h0 xk (by omega) (by omega) (by omega)
    omega
-- gd_0
def q_l127 : SvM := ([(0, none), (0, none), (0, none), (-1180591620717411303424, none), (-1180591620717411303424, none)], [(41, [], [(0, [(0, 1)]), (0, [(1, 1)])]), (1, [38], [(0, [(2, 1)])]), (0, [], [(2, [(4, -1)])])], [(42, [], [(0, [(0, 1)]), (0, [(1, 1)]), (0, [(2, 1)]), (0, [(3, 1)]), (0, [(4, 1)])])])
theorem q_l127_ok : ∀ (g : Int → Int → Int) (ln : Int → Int) (kf : Int → Nat) (ρ : List Int), sv_BOk ρ q_l127.1 → (∀ f ∈ q_l127.2.1, sv_FQk q_Ks q_Q g ln kf ρ f) → ∀ f ∈ q_l127.2.2, sv_FQk q_Ks q_Q g ln kf ρ f := by
  intro g ln kf ρ hb hf
  obtain ⟨hl, hb⟩ := hb
  obtain ⟨xw, r0, rfl, l0⟩ := sv_lens hl
  obtain ⟨xf, r1, rfl, l1⟩ := sv_lens l0
  obtain ⟨xb, r2, rfl, l2⟩ := sv_lens l1
  obtain ⟨xp, r3, rfl, l3⟩ := sv_lens l2
  obtain ⟨xn, r4, rfl, l4⟩ := sv_lens l3
  obtain rfl := sv_len0 l4
  clear l0 l1 l2 l3 l4 hl
  have bw : 0 ≤ xw := (hb 0 _ _ rfl rfl).1
  have bf : 0 ≤ xf := (hb 1 _ _ rfl rfl).1
  have bb : 0 ≤ xb := (hb 2 _ _ rfl rfl).1
  clear hb
  have h0 := hf _ (List.mem_of_getElem? (i := 0) rfl)
  simp [sv_FQk, sv_FQ, sv_evs, sv_ev, sv_evT, sv_nth, sv_adq, sv_gs, q_Ks_25, q_Q_25] at h0
  have h1 := hf _ (List.mem_of_getElem? (i := 1) rfl)
  simp [sv_FQk, sv_FQ, sv_evs, sv_ev, sv_evT, sv_nth, sv_adq, sv_gs] at h1
  have h2 := hf _ (List.mem_of_getElem? (i := 2) rfl)
  simp [sv_FQk, sv_FQ, sv_evs, sv_ev, sv_evT, sv_nth, sv_adq, sv_gs] at h2
  clear hf
  obtain ⟨⟨⟨-, Kw⟩, ⟨-, Kf⟩⟩, h0⟩ := h0
  rw [sv_Qfw_iff] at h0
  have Kb : kf xb = 38 := by omega
  intro f hf
  have hf : f ∈ [(42, [], [(0, [(0, 1)]), (0, [(1, 1)]), (0, [(2, 1)]), (0, [(3, 1)]), (0, [(4, 1)])])] := hf
  simp only [List.mem_cons, List.not_mem_nil, or_false] at hf
  subst hf
  · simp [sv_FQk, sv_FQ, sv_evs, sv_ev, sv_evT, sv_nth, sv_adq, sv_gs, q_Ks_26, q_Q_26]
    refine ⟨⟨⟨bw, Kw⟩, ⟨bf, Kf⟩, ⟨bb, Kb⟩⟩, ?_⟩
    rw [sv_Qgd_iff]
    intro i i1 i2 k k1 k2 _
    have q := h0.1 i i1 i2
    omega
-- gd_s
def q_l128 : SvM := ([(0, none), (0, none), (0, none), (-1180591620717411303424, none), (-1180591620717411303424, none), (-1180591620717411303424, none), (-1180591620717411303424, none), (-1180591620717411303424, none), (-1180591620717411303424, none), (-1180591620717411303424, none)], [(41, [], [(0, [(0, 1)]), (0, [(1, 1)])]), (43, [], [(0, [(0, 1)]), (0, [(1, 1)]), (0, [(2, 1)]), (0, [(3, 1)]), (0, [(4, 1)]), (0, [(5, 1)])]), (42, [], [(0, [(0, 1)]), (0, [(1, 1)]), (0, [(2, 1)]), (0, [(3, 1)]), (1, [(5, 1)])]), (0, [], [(-1, [(5, 1)])]), (0, [], [(0, [(4, 1)])]), (0, [], [(10, [(4, -1)])]), (4, [126, 1], [(0, [(1, 1)]), (0, [(4, 1)]), (0, [(6, 1)])]), (2, [], [(0, [(1, 1)]), (0, [(8, 1)])]), (0, [], [(-1, [(4, -1), (8, 1)])]), (4, [125, 1], [(0, [(0, 1)]), (0, [(5, 1), (6, 1)]), (0, [(7, 1)])]), (2, [], [(0, [(0, 1)]), (0, [(9, 1)])]), (0, [], [(0, [(5, 1), (6, 1)])]), (0, [], [(-1, [(5, -1), (6, -1), (9, 1)])]), (0, [], [(31, [(7, -1)])])], [(42, [], [(0, [(0, 1)]), (0, [(1, 1)]), (0, [(2, 1)]), (0, [(3, 1)]), (2, [(5, 1)])])])
theorem q_l128_ok : ∀ (g : Int → Int → Int) (ln : Int → Int) (kf : Int → Nat) (ρ : List Int), sv_BOk ρ q_l128.1 → (∀ f ∈ q_l128.2.1, sv_FQk q_Ks q_Q g ln kf ρ f) → ∀ f ∈ q_l128.2.2, sv_FQk q_Ks q_Q g ln kf ρ f := by
  intro g ln kf ρ hb hf
  obtain ⟨hl, hb⟩ := hb
  obtain ⟨xw, r0, rfl, l0⟩ := sv_lens hl
  obtain ⟨xf, r1, rfl, l1⟩ := sv_lens l0
  obtain ⟨xb, r2, rfl, l2⟩ := sv_lens l1
  obtain ⟨xp, r3, rfl, l3⟩ := sv_lens l2
  obtain ⟨xi, r4, rfl, l4⟩ := sv_lens l3
  obtain ⟨xn, r5, rfl, l5⟩ := sv_lens l4
  obtain ⟨xy, r6, rfl, l6⟩ := sv_lens l5
  obtain ⟨xc, r7, rfl, l7⟩ := sv_lens l6
  obtain ⟨xNF, r8, rfl, l8⟩ := sv_lens l7
  obtain ⟨xNW, r9, rfl, l9⟩ := sv_lens l8
  obtain rfl := sv_len0 l9
  clear l0 l1 l2 l3 l4 l5 l6 l7 l8 l9 hl
  have bw : 0 ≤ xw := (hb 0 _ _ rfl rfl).1
  have bf : 0 ≤ xf := (hb 1 _ _ rfl rfl).1
  have bb : 0 ≤ xb := (hb 2 _ _ rfl rfl).1
  clear hb
  have h0 := hf _ (List.mem_of_getElem? (i := 0) rfl)
  simp [sv_FQk, sv_FQ, sv_evs, sv_ev, sv_evT, sv_nth, sv_adq, sv_gs, q_Ks_25, q_Q_25] at h0
  have h1 := hf _ (List.mem_of_getElem? (i := 1) rfl)
  simp [sv_FQk, sv_FQ, sv_evs, sv_ev, sv_evT, sv_nth, sv_adq, sv_gs, q_Ks_27, q_Q_27] at h1
  have h2 := hf _ (List.mem_of_getElem? (i := 2) rfl)
  simp [sv_FQk, sv_FQ, sv_evs, sv_ev, sv_evT, sv_nth, sv_adq, sv_gs, q_Ks_26, q_Q_26] at h2
  have h3 := hf _ (List.mem_of_getElem? (i := 3) rfl)
  simp [sv_FQk, sv_FQ, sv_evs, sv_ev, sv_evT, sv_nth, sv_adq, sv_gs] at h3
  have h4 := hf _ (List.mem_of_getElem? (i := 4) rfl)
  simp [sv_FQk, sv_FQ, sv_evs, sv_ev, sv_evT, sv_nth, sv_adq, sv_gs] at h4
  have h5 := hf _ (List.mem_of_getElem? (i := 5) rfl)
  simp [sv_FQk, sv_FQ, sv_evs, sv_ev, sv_evT, sv_nth, sv_adq, sv_gs] at h5
  have h6 := hf _ (List.mem_of_getElem? (i := 6) rfl)
  simp [sv_FQk, sv_FQ, sv_evs, sv_ev, sv_evT, sv_nth, sv_adq, sv_gs] at h6
  have h7 := hf _ (List.mem_of_getElem? (i := 7) rfl)
  simp [sv_FQk, sv_FQ, sv_evs, sv_ev, sv_evT, sv_nth, sv_adq, sv_gs] at h7
  have h8 := hf _ (List.mem_of_getElem? (i := 8) rfl)
  simp [sv_FQk, sv_FQ, sv_evs, sv_ev, sv_evT, sv_nth, sv_adq, sv_gs] at h8
  have h9 := hf _ (List.mem_of_getElem? (i := 9) rfl)
  simp [sv_FQk, sv_FQ, sv_evs, sv_ev, sv_evT, sv_nth, sv_adq, sv_gs] at h9
  have h10 := hf _ (List.mem_of_getElem? (i := 10) rfl)
  simp [sv_FQk, sv_FQ, sv_evs, sv_ev, sv_evT, sv_nth, sv_adq, sv_gs] at h10
  have h11 := hf _ (List.mem_of_getElem? (i := 11) rfl)
  simp [sv_FQk, sv_FQ, sv_evs, sv_ev, sv_evT, sv_nth, sv_adq, sv_gs] at h11
  have h12 := hf _ (List.mem_of_getElem? (i := 12) rfl)
  simp [sv_FQk, sv_FQ, sv_evs, sv_ev, sv_evT, sv_nth, sv_adq, sv_gs] at h12
  have h13 := hf _ (List.mem_of_getElem? (i := 13) rfl)
  simp [sv_FQk, sv_FQ, sv_evs, sv_ev, sv_evT, sv_nth, sv_adq, sv_gs] at h13
  clear hf
  obtain ⟨⟨⟨-, Kw⟩, ⟨-, Kf⟩⟩, h0⟩ := h0
  rw [sv_Qfw_iff] at h0
  obtain ⟨⟨⟨-, Kw⟩, ⟨-, Kf⟩, ⟨-, Kb⟩⟩, h1⟩ := h1
  rw [sv_Qmt_iff] at h1
  obtain ⟨⟨⟨-, Kw⟩, ⟨-, Kf⟩, ⟨-, Kb⟩⟩, h2⟩ := h2
  rw [sv_Qgd_iff] at h2
  replace h6 := h6 bf (by omega) (by have := h7 bf; omega)
  replace h9 := h9 bw (by omega) (by have := h10 bw; omega)
  intro f hf
  have hf : f ∈ [(42, [], [(0, [(0, 1)]), (0, [(1, 1)]), (0, [(2, 1)]), (0, [(3, 1)]), (2, [(5, 1)])])] := hf
  simp only [List.mem_cons, List.not_mem_nil, or_false] at hf
  subst hf
  · simp [sv_FQk, sv_FQ, sv_evs, sv_ev, sv_evT, sv_nth, sv_adq, sv_gs, q_Ks_26, q_Q_26]
    refine ⟨⟨⟨bw, Kw⟩, ⟨bf, Kf⟩, ⟨bb, Kb⟩⟩, ?_⟩
    rw [sv_Qgd_iff]
    intro m m1 m2 k k1 k2 hm
    by_cases e : k ≤ xn
    · exact h2 m m1 m2 k k1 (by omega) hm
    · have e2 : k = xn + 1 := by omega
      have q1 := h2 xi (by omega) (by omega) xn (by omega) (by omega) h1
      have q2 := h0.2 xi m xn (by omega) (by omega) m1 m2 (by omega) q1 (fun j j1 j2 => by rw [h1 j j1 j2, hm j j1 (by omega)]) (by
        have u : g xw (g xf xi + xn) = xc := sv_fat (by omega) h9
        omega)
      omega
-- gd_t
def q_l129 : SvM := ([(0, none), (0, none), (0, none), (-1180591620717411303424, none), (-1180591620717411303424, none), (-1180591620717411303424, none), (-1180591620717411303424, none), (-1180591620717411303424, none), (-1180591620717411303424, none), (-1180591620717411303424, none)], [(41, [], [(0, [(0, 1)]), (0, [(1, 1)])]), (43, [], [(0, [(0, 1)]), (0, [(1, 1)]), (0, [(2, 1)]), (0, [(3, 1)]), (0, [(4, 1)]), (0, [(5, 1)])]), (42, [], [(0, [(0, 1)]), (0, [(1, 1)]), (0, [(2, 1)]), (0, [(3, 1)]), (1, [(5, 1)])]), (0, [], [(-1, [(5, 1)])]), (0, [], [(0, [(4, 1)])]), (0, [], [(10, [(4, -1)])]), (4, [126, 1], [(0, [(1, 1)]), (0, [(4, 1)]), (0, [(6, 1)])]), (2, [], [(0, [(1, 1)]), (0, [(8, 1)])]), (0, [], [(-1, [(4, -1), (8, 1)])]), (4, [125, 1], [(0, [(0, 1)]), (0, [(5, 1), (6, 1)]), (0, [(7, 1)])]), (2, [], [(0, [(0, 1)]), (0, [(9, 1)])]), (0, [], [(0, [(5, 1), (6, 1)])]), (0, [], [(-1, [(5, -1), (6, -1), (9, 1)])]), (0, [], [(-33, [(7, 1)])])], [(42, [], [(0, [(0, 1)]), (0, [(1, 1)]), (0, [(2, 1)]), (0, [(3, 1)]), (2, [(5, 1)])])])
theorem q_l129_ok : ∀ (g : Int → Int → Int) (ln : Int → Int) (kf : Int → Nat) (ρ : List Int), sv_BOk ρ q_l129.1 → (∀ f ∈ q_l129.2.1, sv_FQk q_Ks q_Q g ln kf ρ f) → ∀ f ∈ q_l129.2.2, sv_FQk q_Ks q_Q g ln kf ρ f := by
  intro g ln kf ρ hb hf
  obtain ⟨hl, hb⟩ := hb
  obtain ⟨xw, r0, rfl, l0⟩ := sv_lens hl
  obtain ⟨xf, r1, rfl, l1⟩ := sv_lens l0
  obtain ⟨xb, r2, rfl, l2⟩ := sv_lens l1
  obtain ⟨xp, r3, rfl, l3⟩ := sv_lens l2
  obtain ⟨xi, r4, rfl, l4⟩ := sv_lens l3
  obtain ⟨xn, r5, rfl, l5⟩ := sv_lens l4
  obtain ⟨xy, r6, rfl, l6⟩ := sv_lens l5
  obtain ⟨xc, r7, rfl, l7⟩ := sv_lens l6
  obtain ⟨xNF, r8, rfl, l8⟩ := sv_lens l7
  obtain ⟨xNW, r9, rfl, l9⟩ := sv_lens l8
  obtain rfl := sv_len0 l9
  clear l0 l1 l2 l3 l4 l5 l6 l7 l8 l9 hl
  have bw : 0 ≤ xw := (hb 0 _ _ rfl rfl).1
  have bf : 0 ≤ xf := (hb 1 _ _ rfl rfl).1
  have bb : 0 ≤ xb := (hb 2 _ _ rfl rfl).1
  clear hb
  have h0 := hf _ (List.mem_of_getElem? (i := 0) rfl)
  simp [sv_FQk, sv_FQ, sv_evs, sv_ev, sv_evT, sv_nth, sv_adq, sv_gs, q_Ks_25, q_Q_25] at h0
  have h1 := hf _ (List.mem_of_getElem? (i := 1) rfl)
  simp [sv_FQk, sv_FQ, sv_evs, sv_ev, sv_evT, sv_nth, sv_adq, sv_gs, q_Ks_27, q_Q_27] at h1
  have h2 := hf _ (List.mem_of_getElem? (i := 2) rfl)
  simp [sv_FQk, sv_FQ, sv_evs, sv_ev, sv_evT, sv_nth, sv_adq, sv_gs, q_Ks_26, q_Q_26] at h2
  have h3 := hf _ (List.mem_of_getElem? (i := 3) rfl)
  simp [sv_FQk, sv_FQ, sv_evs, sv_ev, sv_evT, sv_nth, sv_adq, sv_gs] at h3
  have h4 := hf _ (List.mem_of_getElem? (i := 4) rfl)
  simp [sv_FQk, sv_FQ, sv_evs, sv_ev, sv_evT, sv_nth, sv_adq, sv_gs] at h4
  have h5 := hf _ (List.mem_of_getElem? (i := 5) rfl)
  simp [sv_FQk, sv_FQ, sv_evs, sv_ev, sv_evT, sv_nth, sv_adq, sv_gs] at h5
  have h6 := hf _ (List.mem_of_getElem? (i := 6) rfl)
  simp [sv_FQk, sv_FQ, sv_evs, sv_ev, sv_evT, sv_nth, sv_adq, sv_gs] at h6
  have h7 := hf _ (List.mem_of_getElem? (i := 7) rfl)
  simp [sv_FQk, sv_FQ, sv_evs, sv_ev, sv_evT, sv_nth, sv_adq, sv_gs] at h7
  have h8 := hf _ (List.mem_of_getElem? (i := 8) rfl)
  simp [sv_FQk, sv_FQ, sv_evs, sv_ev, sv_evT, sv_nth, sv_adq, sv_gs] at h8
  have h9 := hf _ (List.mem_of_getElem? (i := 9) rfl)
  simp [sv_FQk, sv_FQ, sv_evs, sv_ev, sv_evT, sv_nth, sv_adq, sv_gs] at h9
  have h10 := hf _ (List.mem_of_getElem? (i := 10) rfl)
  simp [sv_FQk, sv_FQ, sv_evs, sv_ev, sv_evT, sv_nth, sv_adq, sv_gs] at h10
  have h11 := hf _ (List.mem_of_getElem? (i := 11) rfl)
  simp [sv_FQk, sv_FQ, sv_evs, sv_ev, sv_evT, sv_nth, sv_adq, sv_gs] at h11
  have h12 := hf _ (List.mem_of_getElem? (i := 12) rfl)
  simp [sv_FQk, sv_FQ, sv_evs, sv_ev, sv_evT, sv_nth, sv_adq, sv_gs] at h12
  have h13 := hf _ (List.mem_of_getElem? (i := 13) rfl)
  simp [sv_FQk, sv_FQ, sv_evs, sv_ev, sv_evT, sv_nth, sv_adq, sv_gs] at h13
  clear hf
  obtain ⟨⟨⟨-, Kw⟩, ⟨-, Kf⟩⟩, h0⟩ := h0
  rw [sv_Qfw_iff] at h0
  obtain ⟨⟨⟨-, Kw⟩, ⟨-, Kf⟩, ⟨-, Kb⟩⟩, h1⟩ := h1
  rw [sv_Qmt_iff] at h1
  obtain ⟨⟨⟨-, Kw⟩, ⟨-, Kf⟩, ⟨-, Kb⟩⟩, h2⟩ := h2
  rw [sv_Qgd_iff] at h2
  replace h6 := h6 bf (by omega) (by have := h7 bf; omega)
  replace h9 := h9 bw (by omega) (by have := h10 bw; omega)
  intro f hf
  have hf : f ∈ [(42, [], [(0, [(0, 1)]), (0, [(1, 1)]), (0, [(2, 1)]), (0, [(3, 1)]), (2, [(5, 1)])])] := hf
  simp only [List.mem_cons, List.not_mem_nil, or_false] at hf
  subst hf
  · simp [sv_FQk, sv_FQ, sv_evs, sv_ev, sv_evT, sv_nth, sv_adq, sv_gs, q_Ks_26, q_Q_26]
    refine ⟨⟨⟨bw, Kw⟩, ⟨bf, Kf⟩, ⟨bb, Kb⟩⟩, ?_⟩
    rw [sv_Qgd_iff]
    intro m m1 m2 k k1 k2 hm
    by_cases e : k ≤ xn
    · exact h2 m m1 m2 k k1 (by omega) hm
    · have e2 : k = xn + 1 := by omega
      have q1 := h2 xi (by omega) (by omega) xn (by omega) (by omega) h1
      have q2 := h0.2 xi m xn (by omega) (by omega) m1 m2 (by omega) q1 (fun j j1 j2 => by rw [h1 j j1 j2, hm j j1 (by omega)]) (by
        have u : g xw (g xf xi + xn) = xc := sv_fat (by omega) h9
        omega)
      omega
-- gd_w
def q_l130 : SvM := ([(0, none), (0, none), (0, none), (-1180591620717411303424, none), (-1180591620717411303424, none), (-1180591620717411303424, none)], [(42, [], [(0, [(0, 1)]), (0, [(1, 1)]), (0, [(2, 1)]), (0, [(3, 1)]), (0, [(4, 1)])]), (0, [], [(0, [(4, 1), (5, -1)])])], [(42, [], [(0, [(0, 1)]), (0, [(1, 1)]), (0, [(2, 1)]), (0, [(3, 1)]), (0, [(5, 1)])])])
theorem q_l130_ok : ∀ (g : Int → Int → Int) (ln : Int → Int) (kf : Int → Nat) (ρ : List Int), sv_BOk ρ q_l130.1 → (∀ f ∈ q_l130.2.1, sv_FQk q_Ks q_Q g ln kf ρ f) → ∀ f ∈ q_l130.2.2, sv_FQk q_Ks q_Q g ln kf ρ f := by
  intro g ln kf ρ hb hf
  obtain ⟨hl, hb⟩ := hb
  obtain ⟨xw, r0, rfl, l0⟩ := sv_lens hl
  obtain ⟨xf, r1, rfl, l1⟩ := sv_lens l0
  obtain ⟨xb, r2, rfl, l2⟩ := sv_lens l1
  obtain ⟨xp, r3, rfl, l3⟩ := sv_lens l2
  obtain ⟨xn, r4, rfl, l4⟩ := sv_lens l3
  obtain ⟨xm, r5, rfl, l5⟩ := sv_lens l4
  obtain rfl := sv_len0 l5
  clear l0 l1 l2 l3 l4 l5 hl
  have bw : 0 ≤ xw := (hb 0 _ _ rfl rfl).1
  have bf : 0 ≤ xf := (hb 1 _ _ rfl rfl).1
  have bb : 0 ≤ xb := (hb 2 _ _ rfl rfl).1
  clear hb
  have h0 := hf _ (List.mem_of_getElem? (i := 0) rfl)
  simp [sv_FQk, sv_FQ, sv_evs, sv_ev, sv_evT, sv_nth, sv_adq, sv_gs, q_Ks_26, q_Q_26] at h0
  have h1 := hf _ (List.mem_of_getElem? (i := 1) rfl)
  simp [sv_FQk, sv_FQ, sv_evs, sv_ev, sv_evT, sv_nth, sv_adq, sv_gs] at h1
  clear hf
  obtain ⟨⟨⟨-, Kw⟩, ⟨-, Kf⟩, ⟨-, Kb⟩⟩, h0⟩ := h0
  rw [sv_Qgd_iff] at h0
  intro f hf
  have hf : f ∈ [(42, [], [(0, [(0, 1)]), (0, [(1, 1)]), (0, [(2, 1)]), (0, [(3, 1)]), (0, [(5, 1)])])] := hf
  simp only [List.mem_cons, List.not_mem_nil, or_false] at hf
  subst hf
  · simp [sv_FQk, sv_FQ, sv_evs, sv_ev, sv_evT, sv_nth, sv_adq, sv_gs, q_Ks_26, q_Q_26]
    refine ⟨⟨⟨bw, Kw⟩, ⟨bf, Kf⟩, ⟨bb, Kb⟩⟩, ?_⟩
    rw [sv_Qgd_iff]
    intro i i1 i2 k k1 k2
    exact h0 i i1 i2 k k1 (by omega)
-- gd_e
def q_l131 : SvM := ([(0, none), (0, none), (0, none), (-1180591620717411303424, none), (-1180591620717411303424, none), (-1180591620717411303424, none), (-1180591620717411303424, none), (-1180591620717411303424, none), (-1180591620717411303424, none)], [(42, [], [(0, [(0, 1)]), (0, [(1, 1)]), (0, [(2, 1)]), (0, [(3, 1)]), (0, [(4, 1)])]), (43, [], [(0, [(0, 1)]), (0, [(1, 1)]), (0, [(2, 1)]), (0, [(3, 1)]), (0, [(5, 1)]), (0, [(6, 1)])]), (0, [], [(-1, [(4, 1), (6, -1)])]), (0, [], [(0, [(6, 1)])]), (0, [], [(0, [(5, 1)])]), (0, [], [(10, [(5, -1)])]), (4, [126, 1], [(0, [(1, 1)]), (0, [(5, 1)]), (0, [(7, 1)])]), (2, [], [(0, [(1, 1)]), (0, [(8, 1)])]), (0, [], [(-1, [(5, -1), (8, 1)])])], [(0, [], [(65, [(6, -1), (7, -1)])])])
theorem q_l131_ok : ∀ (g : Int → Int → Int) (ln : Int → Int) (kf : Int → Nat) (ρ : List Int), sv_BOk ρ q_l131.1 → (∀ f ∈ q_l131.2.1, sv_FQk q_Ks q_Q g ln kf ρ f) → ∀ f ∈ q_l131.2.2, sv_FQk q_Ks q_Q g ln kf ρ f := by
  intro g ln kf ρ hb hf
  obtain ⟨hl, hb⟩ := hb
  obtain ⟨xw, r0, rfl, l0⟩ := sv_lens hl
  obtain ⟨xf, r1, rfl, l1⟩ := sv_lens l0
  obtain ⟨xb, r2, rfl, l2⟩ := sv_lens l1
  obtain ⟨xp, r3, rfl, l3⟩ := sv_lens l2
  obtain ⟨xn, r4, rfl, l4⟩ := sv_lens l3
  obtain ⟨xi, r5, rfl, l5⟩ := sv_lens l4
  obtain ⟨xk, r6, rfl, l6⟩ := sv_lens l5
  obtain ⟨xy, r7, rfl, l7⟩ := sv_lens l6
  obtain ⟨xNF, r8, rfl, l8⟩ := sv_lens l7
  obtain rfl := sv_len0 l8
  clear l0 l1 l2 l3 l4 l5 l6 l7 l8 hl
  have bw : 0 ≤ xw := (hb 0 _ _ rfl rfl).1
  have bf : 0 ≤ xf := (hb 1 _ _ rfl rfl).1
  have bb : 0 ≤ xb := (hb 2 _ _ rfl rfl).1
  clear hb
  have h0 := hf _ (List.mem_of_getElem? (i := 0) rfl)
  simp [sv_FQk, sv_FQ, sv_evs, sv_ev, sv_evT, sv_nth, sv_adq, sv_gs, q_Ks_26, q_Q_26] at h0
  have h1 := hf _ (List.mem_of_getElem? (i := 1) rfl)
  simp [sv_FQk, sv_FQ, sv_evs, sv_ev, sv_evT, sv_nth, sv_adq, sv_gs, q_Ks_27, q_Q_27] at h1
  have h2 := hf _ (List.mem_of_getElem? (i := 2) rfl)
  simp [sv_FQk, sv_FQ, sv_evs, sv_ev, sv_evT, sv_nth, sv_adq, sv_gs] at h2
  have h3 := hf _ (List.mem_of_getElem? (i := 3) rfl)
  simp [sv_FQk, sv_FQ, sv_evs, sv_ev, sv_evT, sv_nth, sv_adq, sv_gs] at h3
  have h4 := hf _ (List.mem_of_getElem? (i := 4) rfl)
  simp [sv_FQk, sv_FQ, sv_evs, sv_ev, sv_evT, sv_nth, sv_adq, sv_gs] at h4
  have h5 := hf _ (List.mem_of_getElem? (i := 5) rfl)
  simp [sv_FQk, sv_FQ, sv_evs, sv_ev, sv_evT, sv_nth, sv_adq, sv_gs] at h5
  have h6 := hf _ (List.mem_of_getElem? (i := 6) rfl)
  simp [sv_FQk, sv_FQ, sv_evs, sv_ev, sv_evT, sv_nth, sv_adq, sv_gs] at h6
  have h7 := hf _ (List.mem_of_getElem? (i := 7) rfl)
  simp [sv_FQk, sv_FQ, sv_evs, sv_ev, sv_evT, sv_nth, sv_adq, sv_gs] at h7
  have h8 := hf _ (List.mem_of_getElem? (i := 8) rfl)
  simp [sv_FQk, sv_FQ, sv_evs, sv_ev, sv_evT, sv_nth, sv_adq, sv_gs] at h8
  clear hf
  obtain ⟨⟨⟨-, Kw⟩, ⟨-, Kf⟩, ⟨-, Kb⟩⟩, h0⟩ := h0
  rw [sv_Qgd_iff] at h0
  obtain ⟨⟨⟨-, Kw⟩, ⟨-, Kf⟩, ⟨-, Kb⟩⟩, h1⟩ := h1
  rw [sv_Qmt_iff] at h1
  replace h6 := h6 bf (by omega) (by have := h7 bf; omega)
  intro f hf
  have hf : f ∈ [(0, [], [(65, [(6, -1), (7, -1)])])] := hf
  simp only [List.mem_cons, List.not_mem_nil, or_false] at hf
  subst hf
  · simp [sv_FQk, sv_FQ, sv_evs, sv_ev, sv_evT, sv_nth, sv_adq, sv_gs]
    have q := h0 xi (by omega) (by omega) xk (by omega) (by omega) h1
    omega
-- mt_0
def q_l132 : SvM := ([(0, none), (0, none), (0, none), (-1180591620717411303424, none), (-1180591620717411303424, none), (-1180591620717411303424, none)], [(1, [125], [(0, [(0, 1)])]), (1, [126], [(0, [(1, 1)])]), (1, [38], [(0, [(2, 1)])]), (0, [], [(0, [(5, -1)])])], [(43, [], [(0, [(0, 1)]), (0, [(1, 1)]), (0, [(2, 1)]), (0, [(3, 1)]), (0, [(4, 1)]), (0, [(5, 1)])])])
theorem q_l132_ok : ∀ (g : Int → Int → Int) (ln : Int → Int) (kf : Int → Nat) (ρ : List Int), sv_BOk ρ q_l132.1 → (∀ f ∈ q_l132.2.1, sv_FQk q_Ks q_Q g ln kf ρ f) → ∀ f ∈ q_l132.2.2, sv_FQk q_Ks q_Q g ln kf ρ f := by
  intro g ln kf ρ hb hf
  obtain ⟨hl, hb⟩ := hb
  obtain ⟨xw, r0, rfl, l0⟩ := sv_lens hl
  obtain ⟨xf, r1, rfl, l1⟩ := sv_lens l0
  obtain ⟨xb, r2, rfl, l2⟩ := sv_lens l1
  obtain ⟨xp, r3, rfl, l3⟩ := sv_lens l2
  obtain ⟨xi, r4, rfl, l4⟩ := sv_lens l3
  obtain ⟨xk, r5, rfl, l5⟩ := sv_lens l4
  obtain rfl := sv_len0 l5
  clear l0 l1 l2 l3 l4 l5 hl
  have bw : 0 ≤ xw := (hb 0 _ _ rfl rfl).1
  have bf : 0 ≤ xf := (hb 1 _ _ rfl rfl).1
  have bb : 0 ≤ xb := (hb 2 _ _ rfl rfl).1
  clear hb
  have h0 := hf _ (List.mem_of_getElem? (i := 0) rfl)
  simp [sv_FQk, sv_FQ, sv_evs, sv_ev, sv_evT, sv_nth, sv_adq, sv_gs] at h0
  have h1 := hf _ (List.mem_of_getElem? (i := 1) rfl)
  simp [sv_FQk, sv_FQ, sv_evs, sv_ev, sv_evT, sv_nth, sv_adq, sv_gs] at h1
  have h2 := hf _ (List.mem_of_getElem? (i := 2) rfl)
  simp [sv_FQk, sv_FQ, sv_evs, sv_ev, sv_evT, sv_nth, sv_adq, sv_gs] at h2
  have h3 := hf _ (List.mem_of_getElem? (i := 3) rfl)
  simp [sv_FQk, sv_FQ, sv_evs, sv_ev, sv_evT, sv_nth, sv_adq, sv_gs] at h3
  clear hf
  have Kw : kf xw = 125 := by omega
  have Kf : kf xf = 126 := by omega
  have Kb : kf xb = 38 := by omega
  intro f hf
  have hf : f ∈ [(43, [], [(0, [(0, 1)]), (0, [(1, 1)]), (0, [(2, 1)]), (0, [(3, 1)]), (0, [(4, 1)]), (0, [(5, 1)])])] := hf
  simp only [List.mem_cons, List.not_mem_nil, or_false] at hf
  subst hf
  · simp [sv_FQk, sv_FQ, sv_evs, sv_ev, sv_evT, sv_nth, sv_adq, sv_gs, q_Ks_27, q_Q_27]
    refine ⟨⟨⟨bw, Kw⟩, ⟨bf, Kf⟩, ⟨bb, Kb⟩⟩, ?_⟩
    rw [sv_Qmt_iff]
    intro j j1 j2
    omega
-- mt_s
def q_l133 : SvM := ([(0, none), (0, none), (0, none), (-1180591620717411303424, none), (-1180591620717411303424, none), (-1180591620717411303424, none), (-1180591620717411303424, none), (-1180591620717411303424, none), (-1180591620717411303424, none), (-1180591620717411303424, none), (-1180591620717411303424, none), (-1180591620717411303424, none)], [(43, [], [(0, [(0, 1)]), (0, [(1, 1)]), (0, [(2, 1)]), (0, [(3, 1)]), (0, [(4, 1)]), (0, [(5, 1)])]), (4, [126, 1], [(0, [(1, 1)]), (0, [(4, 1)]), (0, [(6, 1)])]), (2, [], [(0, [(1, 1)]), (0, [(9, 1)])]), (0, [], [(0, [(4, 1)])]), (0, [], [(-1, [(4, -1), (9, 1)])]), (4, [125, 1], [(0, [(0, 1)]), (0, [(5, 1), (6, 1)]), (0, [(7, 1)])]), (2, [], [(0, [(0, 1)]), (0, [(10, 1)])]), (0, [], [(0, [(5, 1), (6, 1)])]), (0, [], [(-1, [(5, -1), (6, -1), (10, 1)])]), (4, [38, 1], [(0, [(2, 1)]), (0, [(3, 1), (5, 1)]), (0, [(8, 1)])]), (2, [], [(0, [(2, 1)]), (0, [(11, 1)])]), (0, [], [(0, [(3, 1), (5, 1)])]), (0, [], [(-1, [(3, -1), (5, -1), (11, 1)])]), (0, [], [(0, [(7, -1), (8, 1)])]), (0, [], [(0, [(7, 1), (8, -1)])])], [(43, [], [(0, [(0, 1)]), (0, [(1, 1)]), (0, [(2, 1)]), (0, [(3, 1)]), (0, [(4, 1)]), (1, [(5, 1)])])])
theorem q_l133_ok : ∀ (g : Int → Int → Int) (ln : Int → Int) (kf : Int → Nat) (ρ : List Int), sv_BOk ρ q_l133.1 → (∀ f ∈ q_l133.2.1, sv_FQk q_Ks q_Q g ln kf ρ f) → ∀ f ∈ q_l133.2.2, sv_FQk q_Ks q_Q g ln kf ρ f := by
  intro g ln kf ρ hb hf
  obtain ⟨hl, hb⟩ := hb
  obtain ⟨xw, r0, rfl, l0⟩ := sv_lens hl
  obtain ⟨xf, r1, rfl, l1⟩ := sv_lens l0
  obtain ⟨xb, r2, rfl, l2⟩ := sv_lens l1
  obtain ⟨xp, r3, rfl, l3⟩ := sv_lens l2
  obtain ⟨xi, r4, rfl, l4⟩ := sv_lens l3
  obtain ⟨xk, r5, rfl, l5⟩ := sv_lens l4
  obtain ⟨xy, r6, rfl, l6⟩ := sv_lens l5
  obtain ⟨xc, r7, rfl, l7⟩ := sv_lens l6
  obtain ⟨xd, r8, rfl, l8⟩ := sv_lens l7
  obtain ⟨xNF, r9, rfl, l9⟩ := sv_lens l8
  obtain ⟨xNW, r10, rfl, l10⟩ := sv_lens l9
  obtain ⟨xNB, r11, rfl, l11⟩ := sv_lens l10
  obtain rfl := sv_len0 l11
  clear l0 l1 l2 l3 l4 l5 l6 l7 l8 l9 l10 l11 hl
  have bw : 0 ≤ xw := (hb 0 _ _ rfl rfl).1
  have bf : 0 ≤ xf := (hb 1 _ _ rfl rfl).1
  have bb : 0 ≤ xb := (hb 2 _ _ rfl rfl).1
  clear hb
  have h0 := hf _ (List.mem_of_getElem? (i := 0) rfl)
  simp [sv_FQk, sv_FQ, sv_evs, sv_ev, sv_evT, sv_nth, sv_adq, sv_gs, q_Ks_27, q_Q_27] at h0
  have h1 := hf _ (List.mem_of_getElem? (i := 1) rfl)
  simp [sv_FQk, sv_FQ, sv_evs, sv_ev, sv_evT, sv_nth, sv_adq, sv_gs] at h1
  have h2 := hf _ (List.mem_of_getElem? (i := 2) rfl)
  simp [sv_FQk, sv_FQ, sv_evs, sv_ev, sv_evT, sv_nth, sv_adq, sv_gs] at h2
  have h3 := hf _ (List.mem_of_getElem? (i := 3) rfl)
  simp [sv_FQk, sv_FQ, sv_evs, sv_ev, sv_evT, sv_nth, sv_adq, sv_gs] at h3
  have h4 := hf _ (List.mem_of_getElem? (i := 4) rfl)
  simp [sv_FQk, sv_FQ, sv_evs, sv_ev, sv_evT, sv_nth, sv_adq, sv_gs] at h4
  have h5 := hf _ (List.mem_of_getElem? (i := 5) rfl)
  simp [sv_FQk, sv_FQ, sv_evs, sv_ev, sv_evT, sv_nth, sv_adq, sv_gs] at h5
  have h6 := hf _ (List.mem_of_getElem? (i := 6) rfl)
  simp [sv_FQk, sv_FQ, sv_evs, sv_ev, sv_evT, sv_nth, sv_adq, sv_gs] at h6
  have h7 := hf _ (List.mem_of_getElem? (i := 7) rfl)
  simp [sv_FQk, sv_FQ, sv_evs, sv_ev, sv_evT, sv_nth, sv_adq, sv_gs] at h7
  have h8 := hf _ (List.mem_of_getElem? (i := 8) rfl)
  simp [sv_FQk, sv_FQ, sv_evs, sv_ev, sv_evT, sv_nth, sv_adq, sv_gs] at h8
  have h9 := hf _ (List.mem_of_getElem? (i := 9) rfl)
  simp [sv_FQk, sv_FQ, sv_evs, sv_ev, sv_evT, sv_nth, sv_adq, sv_gs] at h9
  have h10 := hf _ (List.mem_of_getElem? (i := 10) rfl)
  simp [sv_FQk, sv_FQ, sv_evs, sv_ev, sv_evT, sv_nth, sv_adq, sv_gs] at h10
  have h11 := hf _ (List.mem_of_getElem? (i := 11) rfl)
  simp [sv_FQk, sv_FQ, sv_evs, sv_ev, sv_evT, sv_nth, sv_adq, sv_gs] at h11
  have h12 := hf _ (List.mem_of_getElem? (i := 12) rfl)
  simp [sv_FQk, sv_FQ, sv_evs, sv_ev, sv_evT, sv_nth, sv_adq, sv_gs] at h12
  have h13 := hf _ (List.mem_of_getElem? (i := 13) rfl)
  simp [sv_FQk, sv_FQ, sv_evs, sv_ev, sv_evT, sv_nth, sv_adq, sv_gs] at h13
  have h14 := hf _ (List.mem_of_getElem? (i := 14) rfl)
  simp [sv_FQk, sv_FQ, sv_evs, sv_ev, sv_evT, sv_nth, sv_adq, sv_gs] at h14
  clear hf
  obtain ⟨⟨⟨-, Kw⟩, ⟨-, Kf⟩, ⟨-, Kb⟩⟩, h0⟩ := h0
  rw [sv_Qmt_iff] at h0
  replace h1 := h1 bf (by omega) (by have := h2 bf; omega)
  replace h5 := h5 bw (by omega) (by have := h6 bw; omega)
  replace h9 := h9 bb (by omega) (by have := h10 bb; omega)
  intro f hf
  have hf : f ∈ [(43, [], [(0, [(0, 1)]), (0, [(1, 1)]), (0, [(2, 1)]), (0, [(3, 1)]), (0, [(4, 1)]), (1, [(5, 1)])])] := hf
  simp only [List.mem_cons, List.not_mem_nil, or_false] at hf
  subst hf
  · simp [sv_FQk, sv_FQ, sv_evs, sv_ev, sv_evT, sv_nth, sv_adq, sv_gs, q_Ks_27, q_Q_27]
    refine ⟨⟨⟨bw, Kw⟩, ⟨bf, Kf⟩, ⟨bb, Kb⟩⟩, ?_⟩
    rw [sv_Qmt_iff]
    intro j j1 j2
    by_cases e : j = xk
    · rw [e, h1]
      have u : g xw (xy + xk) = xc := sv_fat (by omega) h5
      have v : g xb (xp + xk) = xd := sv_fat (by omega) h9
      omega
    · exact h0 j j1 (by omega)
-- mt_w
def q_l134 : SvM := ([(0, none), (0, none), (0, none), (-1180591620717411303424, none), (-1180591620717411303424, none), (-1180591620717411303424, none), (-1180591620717411303424, none)], [(43, [], [(0, [(0, 1)]), (0, [(1, 1)]), (0, [(2, 1)]), (0, [(3, 1)]), (0, [(4, 1)]), (0, [(5, 1)])]), (0, [], [(0, [(5, 1), (6, -1)])])], [(43, [], [(0, [(0, 1)]), (0, [(1, 1)]), (0, [(2, 1)]), (0, [(3, 1)]), (0, [(4, 1)]), (0, [(6, 1)])])])
theorem q_l134_ok : ∀ (g : Int → Int → Int) (ln : Int → Int) (kf : Int → Nat) (ρ : List Int), sv_BOk ρ q_l134.1 → (∀ f ∈ q_l134.2.1, sv_FQk q_Ks q_Q g ln kf ρ f) → ∀ f ∈ q_l134.2.2, sv_FQk q_Ks q_Q g ln kf ρ f := by
  intro g ln kf ρ hb hf
  obtain ⟨hl, hb⟩ := hb
  obtain ⟨xw, r0, rfl, l0⟩ := sv_lens hl
  obtain ⟨xf, r1, rfl, l1⟩ := sv_lens l0
  obtain ⟨xb, r2, rfl, l2⟩ := sv_lens l1
  obtain ⟨xp, r3, rfl, l3⟩ := sv_lens l2
  obtain ⟨xi, r4, rfl, l4⟩ := sv_lens l3
  obtain ⟨xk, r5, rfl, l5⟩ := sv_lens l4
  obtain ⟨xm, r6, rfl, l6⟩ := sv_lens l5
  obtain rfl := sv_len0 l6
  clear l0 l1 l2 l3 l4 l5 l6 hl
  have bw : 0 ≤ xw := (hb 0 _ _ rfl rfl).1
  have bf : 0 ≤ xf := (hb 1 _ _ rfl rfl).1
  have bb : 0 ≤ xb := (hb 2 _ _ rfl rfl).1
  clear hb
  have h0 := hf _ (List.mem_of_getElem? (i := 0) rfl)
  simp [sv_FQk, sv_FQ, sv_evs, sv_ev, sv_evT, sv_nth, sv_adq, sv_gs, q_Ks_27, q_Q_27] at h0
  have h1 := hf _ (List.mem_of_getElem? (i := 1) rfl)
  simp [sv_FQk, sv_FQ, sv_evs, sv_ev, sv_evT, sv_nth, sv_adq, sv_gs] at h1
  clear hf
  obtain ⟨⟨⟨-, Kw⟩, ⟨-, Kf⟩, ⟨-, Kb⟩⟩, h0⟩ := h0
  rw [sv_Qmt_iff] at h0
  intro f hf
  have hf : f ∈ [(43, [], [(0, [(0, 1)]), (0, [(1, 1)]), (0, [(2, 1)]), (0, [(3, 1)]), (0, [(4, 1)]), (0, [(6, 1)])])] := hf
  simp only [List.mem_cons, List.not_mem_nil, or_false] at hf
  subst hf
  · simp [sv_FQk, sv_FQ, sv_evs, sv_ev, sv_evT, sv_nth, sv_adq, sv_gs, q_Ks_27, q_Q_27]
    refine ⟨⟨⟨bw, Kw⟩, ⟨bf, Kf⟩, ⟨bb, Kb⟩⟩, ?_⟩
    rw [sv_Qmt_iff]
    intro j j1 j2
    exact h0 j j1 (by omega)
-- cl_0
def q_l135 : SvM := ([(0, none), (0, none), (-1180591620717411303424, none)], [(1, [146], [(0, [(0, 1)])]), (1, [147], [(0, [(1, 1)])]), (0, [], [(0, [(2, -1)])])], [(44, [], [(0, [(0, 1)]), (0, [(1, 1)]), (0, [(2, 1)])])])
theorem q_l135_ok : ∀ (g : Int → Int → Int) (ln : Int → Int) (kf : Int → Nat) (ρ : List Int), sv_BOk ρ q_l135.1 → (∀ f ∈ q_l135.2.1, sv_FQk q_Ks q_Q g ln kf ρ f) → ∀ f ∈ q_l135.2.2, sv_FQk q_Ks q_Q g ln kf ρ f := by
  intro g ln kf ρ hb hf
  obtain ⟨hl, hb⟩ := hb
  obtain ⟨xa, r0, rfl, l0⟩ := sv_lens hl
  obtain ⟨xb, r1, rfl, l1⟩ := sv_lens l0
  obtain ⟨xn, r2, rfl, l2⟩ := sv_lens l1
  obtain rfl := sv_len0 l2
  clear l0 l1 l2 hl
  have ba : 0 ≤ xa := (hb 0 _ _ rfl rfl).1
  have bb : 0 ≤ xb := (hb 1 _ _ rfl rfl).1
  clear hb
  have h0 := hf _ (List.mem_of_getElem? (i := 0) rfl)
  simp [sv_FQk, sv_FQ, sv_evs, sv_ev, sv_evT, sv_nth, sv_adq, sv_gs] at h0
  have h1 := hf _ (List.mem_of_getElem? (i := 1) rfl)
  simp [sv_FQk, sv_FQ, sv_evs, sv_ev, sv_evT, sv_nth, sv_adq, sv_gs] at h1
  have h2 := hf _ (List.mem_of_getElem? (i := 2) rfl)
  simp [sv_FQk, sv_FQ, sv_evs, sv_ev, sv_evT, sv_nth, sv_adq, sv_gs] at h2
  clear hf
  have Ka : kf xa = 146 := by omega
  have Kb : kf xb = 147 := by omega
  intro f hf
  have hf : f ∈ [(44, [], [(0, [(0, 1)]), (0, [(1, 1)]), (0, [(2, 1)])])] := hf
  simp only [List.mem_cons, List.not_mem_nil, or_false] at hf
  subst hf
  · simp [sv_FQk, sv_FQ, sv_evs, sv_ev, sv_evT, sv_nth, sv_adq, sv_gs, q_Ks_28, q_Q_28]
    refine ⟨⟨⟨ba, Ka⟩, ⟨bb, Kb⟩⟩, ?_⟩
    rw [sv_Qcl_iff]
    intro i i1 i2
    omega
-- cl_1
def q_l136 : SvM := ([(0, none), (0, none), (-1180591620717411303424, none), (-1180591620717411303424, none), (-1180591620717411303424, none), (-1180591620717411303424, none)], [(44, [], [(0, [(0, 1)]), (0, [(1, 1)]), (0, [(2, 1)])]), (4, [146, 1], [(0, [(0, 1)]), (0, [(3, 1)]), (0, [(4, 1)])]), (2, [], [(0, [(0, 1)]), (0, [(5, 1)])]), (0, [], [(0, [(3, 1)])]), (0, [], [(-1, [(2, 1), (3, -1)])]), (0, [], [(-1, [(3, -1), (5, 1)])])], [(0, [], [(-1, [(4, 1)])]), (0, [], [(3, [(4, -1)])])])
theorem q_l136_ok : ∀ (g : Int → Int → Int) (ln : Int → Int) (kf : Int → Nat) (ρ : List Int), sv_BOk ρ q_l136.1 → (∀ f ∈ q_l136.2.1, sv_FQk q_Ks q_Q g ln kf ρ f) → ∀ f ∈ q_l136.2.2, sv_FQk q_Ks q_Q g ln kf ρ f := by
  intro g ln kf ρ hb hf
  obtain ⟨hl, hb⟩ := hb
  obtain ⟨xa, r0, rfl, l0⟩ := sv_lens hl
  obtain ⟨xb, r1, rfl, l1⟩ := sv_lens l0
  obtain ⟨xn, r2, rfl, l2⟩ := sv_lens l1
  obtain ⟨xi, r3, rfl, l3⟩ := sv_lens l2
  obtain ⟨xx, r4, rfl, l4⟩ := sv_lens l3
  obtain ⟨xN, r5, rfl, l5⟩ := sv_lens l4
  obtain rfl := sv_len0 l5
  clear l0 l1 l2 l3 l4 l5 hl
  have ba : 0 ≤ xa := (hb 0 _ _ rfl rfl).1
  have bb : 0 ≤ xb := (hb 1 _ _ rfl rfl).1
  clear hb
  have h0 := hf _ (List.mem_of_getElem? (i := 0) rfl)
  simp [sv_FQk, sv_FQ, sv_evs, sv_ev, sv_evT, sv_nth, sv_adq, sv_gs, q_Ks_28, q_Q_28] at h0
  have h1 := hf _ (List.mem_of_getElem? (i := 1) rfl)
  simp [sv_FQk, sv_FQ, sv_evs, sv_ev, sv_evT, sv_nth, sv_adq, sv_gs] at h1
  have h2 := hf _ (List.mem_of_getElem? (i := 2) rfl)
  simp [sv_FQk, sv_FQ, sv_evs, sv_ev, sv_evT, sv_nth, sv_adq, sv_gs] at h2
  have h3 := hf _ (List.mem_of_getElem? (i := 3) rfl)
  simp [sv_FQk, sv_FQ, sv_evs, sv_ev, sv_evT, sv_nth, sv_adq, sv_gs] at h3
  have h4 := hf _ (List.mem_of_getElem? (i := 4) rfl)
  simp [sv_FQk, sv_FQ, sv_evs, sv_ev, sv_evT, sv_nth, sv_adq, sv_gs] at h4
  have h5 := hf _ (List.mem_of_getElem? (i := 5) rfl)
  simp [sv_FQk, sv_FQ, sv_evs, sv_ev, sv_evT, sv_nth, sv_adq, sv_gs] at h5
  clear hf
  obtain ⟨⟨⟨-, Ka⟩, ⟨-, Kb⟩⟩, h0⟩ := h0
  rw [sv_Qcl_iff] at h0
  replace h1 := h1 ba (by omega) (by have := h2 ba; omega)
  intro f hf
  have hf : f ∈ [(0, [], [(-1, [(4, 1)])]), (0, [], [(3, [(4, -1)])])] := hf
  simp only [List.mem_cons, List.not_mem_nil, or_false] at hf
  rcases hf with rfl | rfl
  · simp [sv_FQk, sv_FQ, sv_evs, sv_ev, sv_evT, sv_nth, sv_adq, sv_gs]
    have q := h0 xi (by omega) (by omega)
    omega
  · simp [sv_FQk, sv_FQ, sv_evs, sv_ev, sv_evT, sv_nth, sv_adq, sv_gs]
    have q := h0 xi (by omega) (by omega)
    omega
-- cl_2
def q_l137 : SvM := ([(0, none), (0, none), (-1180591620717411303424, none), (-1180591620717411303424, none), (-1180591620717411303424, none), (-1180591620717411303424, none), (-1180591620717411303424, none), (-1180591620717411303424, none)], [(44, [], [(0, [(0, 1)]), (0, [(1, 1)]), (0, [(2, 1)])]), (4, [146, 1], [(0, [(0, 1)]), (0, [(3, 1)]), (0, [(4, 1)])]), (2, [], [(0, [(0, 1)]), (0, [(5, 1)])]), (0, [], [(0, [(3, 1)])]), (0, [], [(-1, [(2, 1), (3, -1)])]), (0, [], [(-1, [(3, -1), (5, 1)])]), (4, [147, 1], [(0, [(1, 1)]), (0, [(3, 1)]), (0, [(6, 1)])]), (2, [], [(0, [(1, 1)]), (0, [(7, 1)])]), (0, [], [(-1, [(3, -1), (7, 1)])]), (0, [], [(-2, [(4, 1)])]), (0, [], [(2, [(4, -1)])])], [(0, [], [(0, [(6, 1)])])])
theorem q_l137_ok : ∀ (g : Int → Int → Int) (ln : Int → Int) (kf : Int → Nat) (ρ : List Int), sv_BOk ρ q_l137.1 → (∀ f ∈ q_l137.2.1, sv_FQk q_Ks q_Q g ln kf ρ f) → ∀ f ∈ q_l137.2.2, sv_FQk q_Ks q_Q g ln kf ρ f := by
  intro g ln kf ρ hb hf
  obtain ⟨hl, hb⟩ := hb
  obtain ⟨xa, r0, rfl, l0⟩ := sv_lens hl
  obtain ⟨xb, r1, rfl, l1⟩ := sv_lens l0
  obtain ⟨xn, r2, rfl, l2⟩ := sv_lens l1
  obtain ⟨xi, r3, rfl, l3⟩ := sv_lens l2
  obtain ⟨xx, r4, rfl, l4⟩ := sv_lens l3
  obtain ⟨xN, r5, rfl, l5⟩ := sv_lens l4
  obtain ⟨xy, r6, rfl, l6⟩ := sv_lens l5
  obtain ⟨xM, r7, rfl, l7⟩ := sv_lens l6
  obtain rfl := sv_len0 l7
  clear l0 l1 l2 l3 l4 l5 l6 l7 hl
  have ba : 0 ≤ xa := (hb 0 _ _ rfl rfl).1
  have bb : 0 ≤ xb := (hb 1 _ _ rfl rfl).1
  clear hb
  have h0 := hf _ (List.mem_of_getElem? (i := 0) rfl)
  simp [sv_FQk, sv_FQ, sv_evs, sv_ev, sv_evT, sv_nth, sv_adq, sv_gs, q_Ks_28, q_Q_28] at h0
  have h1 := hf _ (List.mem_of_getElem? (i := 1) rfl)
  simp [sv_FQk, sv_FQ, sv_evs, sv_ev, sv_evT, sv_nth, sv_adq, sv_gs] at h1
  have h2 := hf _ (List.mem_of_getElem? (i := 2) rfl)
  simp [sv_FQk, sv_FQ, sv_evs, sv_ev, sv_evT, sv_nth, sv_adq, sv_gs] at h2
  have h3 := hf _ (List.mem_of_getElem? (i := 3) rfl)
  simp [sv_FQk, sv_FQ, sv_evs, sv_ev, sv_evT, sv_nth, sv_adq, sv_gs] at h3
  have h4 := hf _ (List.mem_of_getElem? (i := 4) rfl)
  simp [sv_FQk, sv_FQ, sv_evs, sv_ev, sv_evT, sv_nth, sv_adq, sv_gs] at h4
  have h5 := hf _ (List.mem_of_getElem? (i := 5) rfl)
  simp [sv_FQk, sv_FQ, sv_evs, sv_ev, sv_evT, sv_nth, sv_adq, sv_gs] at h5
  have h6 := hf _ (List.mem_of_getElem? (i := 6) rfl)
  simp [sv_FQk, sv_FQ, sv_evs, sv_ev, sv_evT, sv_nth, sv_adq, sv_gs] at h6
  have h7 := hf _ (List.mem_of_getElem? (i := 7) rfl)
  simp [sv_FQk, sv_FQ, sv_evs, sv_ev, sv_evT, sv_nth, sv_adq, sv_gs] at h7
  have h8 := hf _ (List.mem_of_getElem? (i := 8) rfl)
  simp [sv_FQk, sv_FQ, sv_evs, sv_ev, sv_evT, sv_nth, sv_adq, sv_gs] at h8
  have h9 := hf _ (List.mem_of_getElem? (i := 9) rfl)
  simp [sv_FQk, sv_FQ, sv_evs, sv_ev, sv_evT, sv_nth, sv_adq, sv_gs] at h9
  have h10 := hf _ (List.mem_of_getElem? (i := 10) rfl)
  simp [sv_FQk, sv_FQ, sv_evs, sv_ev, sv_evT, sv_nth, sv_adq, sv_gs] at h10
  clear hf
  obtain ⟨⟨⟨-, Ka⟩, ⟨-, Kb⟩⟩, h0⟩ := h0
  rw [sv_Qcl_iff] at h0
  replace h1 := h1 ba (by omega) (by have := h2 ba; omega)
  replace h6 := h6 bb (by omega) (by have := h7 bb; omega)
  intro f hf
  have hf : f ∈ [(0, [], [(0, [(6, 1)])])] := hf
  simp only [List.mem_cons, List.not_mem_nil, or_false] at hf
  subst hf
  · simp [sv_FQk, sv_FQ, sv_evs, sv_ev, sv_evT, sv_nth, sv_adq, sv_gs]
    have q := h0 xi (by omega) (by omega)
    omega
-- cl_3
def q_l138 : SvM := ([(0, none), (0, none), (-1180591620717411303424, none), (-1180591620717411303424, none), (-1180591620717411303424, none), (-1180591620717411303424, none), (-1180591620717411303424, none), (-1180591620717411303424, none)], [(44, [], [(0, [(0, 1)]), (0, [(1, 1)]), (0, [(2, 1)])]), (4, [146, 1], [(0, [(0, 1)]), (0, [(3, 1)]), (0, [(4, 1)])]), (2, [], [(0, [(0, 1)]), (0, [(5, 1)])]), (0, [], [(0, [(3, 1)])]), (0, [], [(-1, [(2, 1), (3, -1)])]), (0, [], [(-1, [(3, -1), (5, 1)])]), (4, [147, 1], [(0, [(1, 1)]), (0, [(3, 1)]), (0, [(6, 1)])]), (2, [], [(0, [(1, 1)]), (0, [(7, 1)])]), (0, [], [(-1, [(3, -1), (7, 1)])]), (0, [], [(-3, [(4, 1)])])], [(0, [], [(0, [(6, 1)])]), (0, [], [(149, [(6, -1)])])])
theorem q_l138_ok : ∀ (g : Int → Int → Int) (ln : Int → Int) (kf : Int → Nat) (ρ : List Int), sv_BOk ρ q_l138.1 → (∀ f ∈ q_l138.2.1, sv_FQk q_Ks q_Q g ln kf ρ f) → ∀ f ∈ q_l138.2.2, sv_FQk q_Ks q_Q g ln kf ρ f := by
  intro g ln kf ρ hb hf
  obtain ⟨hl, hb⟩ := hb
  obtain ⟨xa, r0, rfl, l0⟩ := sv_lens hl
  obtain ⟨xb, r1, rfl, l1⟩ := sv_lens l0
  obtain ⟨xn, r2, rfl, l2⟩ := sv_lens l1
  obtain ⟨xi, r3, rfl, l3⟩ := sv_lens l2
  obtain ⟨xx, r4, rfl, l4⟩ := sv_lens l3
  obtain ⟨xN, r5, rfl, l5⟩ := sv_lens l4
  obtain ⟨xy, r6, rfl, l6⟩ := sv_lens l5
  obtain ⟨xM, r7, rfl, l7⟩ := sv_lens l6
  obtain rfl := sv_len0 l7
  clear l0 l1 l2 l3 l4 l5 l6 l7 hl
  have ba : 0 ≤ xa := (hb 0 _ _ rfl rfl).1
  have bb : 0 ≤ xb := (hb 1 _ _ rfl rfl).1
  clear hb
  have h0 := hf _ (List.mem_of_getElem? (i := 0) rfl)
  simp [sv_FQk, sv_FQ, sv_evs, sv_ev, sv_evT, sv_nth, sv_adq, sv_gs, q_Ks_28, q_Q_28] at h0
  have h1 := hf _ (List.mem_of_getElem? (i := 1) rfl)
  simp [sv_FQk, sv_FQ, sv_evs, sv_ev, sv_evT, sv_nth, sv_adq, sv_gs] at h1
  have h2 := hf _ (List.mem_of_getElem? (i := 2) rfl)
  simp [sv_FQk, sv_FQ, sv_evs, sv_ev, sv_evT, sv_nth, sv_adq, sv_gs] at h2
  have h3 := hf _ (List.mem_of_getElem? (i := 3) rfl)
  simp [sv_FQk, sv_FQ, sv_evs, sv_ev, sv_evT, sv_nth, sv_adq, sv_gs] at h3
  have h4 := hf _ (List.mem_of_getElem? (i := 4) rfl)
  simp [sv_FQk, sv_FQ, sv_evs, sv_ev, sv_evT, sv_nth, sv_adq, sv_gs] at h4
  have h5 := hf _ (List.mem_of_getElem? (i := 5) rfl)
  simp [sv_FQk, sv_FQ, sv_evs, sv_ev, sv_evT, sv_nth, sv_adq, sv_gs] at h5
  have h6 := hf _ (List.mem_of_getElem? (i := 6) rfl)
  simp [sv_FQk, sv_FQ, sv_evs, sv_ev, sv_evT, sv_nth, sv_adq, sv_gs] at h6
  have h7 := hf _ (List.mem_of_getElem? (i := 7) rfl)
  simp [sv_FQk, sv_FQ, sv_evs, sv_ev, sv_evT, sv_nth, sv_adq, sv_gs] at h7
  have h8 := hf _ (List.mem_of_getElem? (i := 8) rfl)
  simp [sv_FQk, sv_FQ, sv_evs, sv_ev, sv_evT, sv_nth, sv_adq, sv_gs] at h8
  have h9 := hf _ (List.mem_of_getElem? (i := 9) rfl)
  simp [sv_FQk, sv_FQ, sv_evs, sv_ev, sv_evT, sv_nth, sv_adq, sv_gs] at h9
  clear hf
  obtain ⟨⟨⟨-, Ka⟩, ⟨-, Kb⟩⟩, h0⟩ := h0
  rw [sv_Qcl_iff] at h0
  replace h1 := h1 ba (by omega) (by have := h2 ba; omega)
  replace h6 := h6 bb (by omega) (by have := h7 bb; omega)
  intro f hf
  have hf : f ∈ [(0, [], [(0, [(6, 1)])]), (0, [], [(149, [(6, -1)])])] := hf
  simp only [List.mem_cons, List.not_mem_nil, or_false] at hf
  rcases hf with rfl | rfl
  · simp [sv_FQk, sv_FQ, sv_evs, sv_ev, sv_evT, sv_nth, sv_adq, sv_gs]
    have q := h0 xi (by omega) (by omega)
    omega
  · simp [sv_FQk, sv_FQ, sv_evs, sv_ev, sv_evT, sv_nth, sv_adq, sv_gs]
    have q := h0 xi (by omega) (by omega)
    omega
-- cl_a1
def q_l139 : SvM := ([(0, none), (0, none), (-1180591620717411303424, none), (-1180591620717411303424, none), (-1180591620717411303424, none)], [(44, [], [(0, [(0, 1)]), (0, [(1, 1)]), (0, [(2, 1)])]), (4, [146, 1], [(0, [(0, 1)]), (0, [(2, 1)]), (0, [(3, 1)])]), (2, [], [(0, [(0, 1)]), (0, [(4, 1)])]), (0, [], [(0, [(2, 1)])]), (0, [], [(-1, [(2, -1), (4, 1)])]), (0, [], [(-1, [(3, 1)])]), (0, [], [(1, [(3, -1)])])], [(44, [], [(0, [(0, 1)]), (0, [(1, 1)]), (1, [(2, 1)])])])
theorem q_l139_ok : ∀ (g : Int → Int → Int) (ln : Int → Int) (kf : Int → Nat) (ρ : List Int), sv_BOk ρ q_l139.1 → (∀ f ∈ q_l139.2.1, sv_FQk q_Ks q_Q g ln kf ρ f) → ∀ f ∈ q_l139.2.2, sv_FQk q_Ks q_Q g ln kf ρ f := by
  intro g ln kf ρ hb hf
  obtain ⟨hl, hb⟩ := hb
  obtain ⟨xa, r0, rfl, l0⟩ := sv_lens hl
  obtain ⟨xb, r1, rfl, l1⟩ := sv_lens l0
  obtain ⟨xn, r2, rfl, l2⟩ := sv_lens l1
  obtain ⟨xx, r3, rfl, l3⟩ := sv_lens l2
  obtain ⟨xN, r4, rfl, l4⟩ := sv_lens l3
  obtain rfl := sv_len0 l4
  clear l0 l1 l2 l3 l4 hl
  have ba : 0 ≤ xa := (hb 0 _ _ rfl rfl).1
  have bb : 0 ≤ xb := (hb 1 _ _ rfl rfl).1
  clear hb
  have h0 := hf _ (List.mem_of_getElem? (i := 0) rfl)
  simp [sv_FQk, sv_FQ, sv_evs, sv_ev, sv_evT, sv_nth, sv_adq, sv_gs, q_Ks_28, q_Q_28] at h0
  have h1 := hf _ (List.mem_of_getElem? (i := 1) rfl)
  simp [sv_FQk, sv_FQ, sv_evs, sv_ev, sv_evT, sv_nth, sv_adq, sv_gs] at h1
  have h2 := hf _ (List.mem_of_getElem? (i := 2) rfl)
  simp [sv_FQk, sv_FQ, sv_evs, sv_ev, sv_evT, sv_nth, sv_adq, sv_gs] at h2
  have h3 := hf _ (List.mem_of_getElem? (i := 3) rfl)
  simp [sv_FQk, sv_FQ, sv_evs, sv_ev, sv_evT, sv_nth, sv_adq, sv_gs] at h3
  have h4 := hf _ (List.mem_of_getElem? (i := 4) rfl)
  simp [sv_FQk, sv_FQ, sv_evs, sv_ev, sv_evT, sv_nth, sv_adq, sv_gs] at h4
  have h5 := hf _ (List.mem_of_getElem? (i := 5) rfl)
  simp [sv_FQk, sv_FQ, sv_evs, sv_ev, sv_evT, sv_nth, sv_adq, sv_gs] at h5
  have h6 := hf _ (List.mem_of_getElem? (i := 6) rfl)
  simp [sv_FQk, sv_FQ, sv_evs, sv_ev, sv_evT, sv_nth, sv_adq, sv_gs] at h6
  clear hf
  obtain ⟨⟨⟨-, Ka⟩, ⟨-, Kb⟩⟩, h0⟩ := h0
  rw [sv_Qcl_iff] at h0
  replace h1 := h1 ba (by omega) (by have := h2 ba; omega)
  intro f hf
  have hf : f ∈ [(44, [], [(0, [(0, 1)]), (0, [(1, 1)]), (1, [(2, 1)])])] := hf
  simp only [List.mem_cons, List.not_mem_nil, or_false] at hf
  subst hf
  · simp [sv_FQk, sv_FQ, sv_evs, sv_ev, sv_evT, sv_nth, sv_adq, sv_gs, q_Ks_28, q_Q_28]
    refine ⟨⟨⟨ba, Ka⟩, ⟨bb, Kb⟩⟩, ?_⟩
    rw [sv_Qcl_iff]
    intro i i1 i2
    by_cases e : i = xn
    · rw [e]
      omega
    · exact h0 i i1 (by omega)
-- cl_a2
def q_l140 : SvM := ([(0, none), (0, none), (-1180591620717411303424, none), (-1180591620717411303424, none), (-1180591620717411303424, none), (-1180591620717411303424, none), (-1180591620717411303424, none)], [(44, [], [(0, [(0, 1)]), (0, [(1, 1)]), (0, [(2, 1)])]), (4, [146, 1], [(0, [(0, 1)]), (0, [(2, 1)]), (0, [(3, 1)])]), (2, [], [(0, [(0, 1)]), (0, [(4, 1)])]), (0, [], [(0, [(2, 1)])]), (0, [], [(-1, [(2, -1), (4, 1)])]), (0, [], [(-2, [(3, 1)])]), (0, [], [(2, [(3, -1)])]), (4, [147, 1], [(0, [(1, 1)]), (0, [(2, 1)]), (0, [(5, 1)])]), (2, [], [(0, [(1, 1)]), (0, [(6, 1)])]), (0, [], [(-1, [(2, -1), (6, 1)])]), (0, [], [(0, [(5, 1)])])], [(44, [], [(0, [(0, 1)]), (0, [(1, 1)]), (1, [(2, 1)])])])
theorem q_l140_ok : ∀ (g : Int → Int → Int) (ln : Int → Int) (kf : Int → Nat) (ρ : List Int), sv_BOk ρ q_l140.1 → (∀ f ∈ q_l140.2.1, sv_FQk q_Ks q_Q g ln kf ρ f) → ∀ f ∈ q_l140.2.2, sv_FQk q_Ks q_Q g ln kf ρ f := by
  intro g ln kf ρ hb hf
  obtain ⟨hl, hb⟩ := hb
  obtain ⟨xa, r0, rfl, l0⟩ := sv_lens hl
  obtain ⟨xb, r1, rfl, l1⟩ := sv_lens l0
  obtain ⟨xn, r2, rfl, l2⟩ := sv_lens l1
  obtain ⟨xx, r3, rfl, l3⟩ := sv_lens l2
  obtain ⟨xN, r4, rfl, l4⟩ := sv_lens l3
  obtain ⟨xy, r5, rfl, l5⟩ := sv_lens l4
  obtain ⟨xM, r6, rfl, l6⟩ := sv_lens l5
  obtain rfl := sv_len0 l6
  clear l0 l1 l2 l3 l4 l5 l6 hl
  have ba : 0 ≤ xa := (hb 0 _ _ rfl rfl).1
  have bb : 0 ≤ xb := (hb 1 _ _ rfl rfl).1
  clear hb
  have h0 := hf _ (List.mem_of_getElem? (i := 0) rfl)
  simp [sv_FQk, sv_FQ, sv_evs, sv_ev, sv_evT, sv_nth, sv_adq, sv_gs, q_Ks_28, q_Q_28] at h0
  have h1 := hf _ (List.mem_of_getElem? (i := 1) rfl)
  simp [sv_FQk, sv_FQ, sv_evs, sv_ev, sv_evT, sv_nth, sv_adq, sv_gs] at h1
  have h2 := hf _ (List.mem_of_getElem? (i := 2) rfl)
  simp [sv_FQk, sv_FQ, sv_evs, sv_ev, sv_evT, sv_nth, sv_adq, sv_gs] at h2
  have h3 := hf _ (List.mem_of_getElem? (i := 3) rfl)
  simp [sv_FQk, sv_FQ, sv_evs, sv_ev, sv_evT, sv_nth, sv_adq, sv_gs] at h3
  have h4 := hf _ (List.mem_of_getElem? (i := 4) rfl)
  simp [sv_FQk, sv_FQ, sv_evs, sv_ev, sv_evT, sv_nth, sv_adq, sv_gs] at h4
  have h5 := hf _ (List.mem_of_getElem? (i := 5) rfl)
  simp [sv_FQk, sv_FQ, sv_evs, sv_ev, sv_evT, sv_nth, sv_adq, sv_gs] at h5
  have h6 := hf _ (List.mem_of_getElem? (i := 6) rfl)
  simp [sv_FQk, sv_FQ, sv_evs, sv_ev, sv_evT, sv_nth, sv_adq, sv_gs] at h6
  have h7 := hf _ (List.mem_of_getElem? (i := 7) rfl)
  simp [sv_FQk, sv_FQ, sv_evs, sv_ev, sv_evT, sv_nth, sv_adq, sv_gs] at h7
  have h8 := hf _ (List.mem_of_getElem? (i := 8) rfl)
  simp [sv_FQk, sv_FQ, sv_evs, sv_ev, sv_evT, sv_nth, sv_adq, sv_gs] at h8
  have h9 := hf _ (List.mem_of_getElem? (i := 9) rfl)
  simp [sv_FQk, sv_FQ, sv_evs, sv_ev, sv_evT, sv_nth, sv_adq, sv_gs] at h9
  have h10 := hf _ (List.mem_of_getElem? (i := 10) rfl)
  simp [sv_FQk, sv_FQ, sv_evs, sv_ev, sv_evT, sv_nth, sv_adq, sv_gs] at h10
  clear hf
  obtain ⟨⟨⟨-, Ka⟩, ⟨-, Kb⟩⟩, h0⟩ := h0
  rw [sv_Qcl_iff] at h0
  replace h1 := h1 ba (by omega) (by have := h2 ba; omega)
  replace h7 := h7 bb (by omega) (by have := h8 bb; omega)
  intro f hf
  have hf : f ∈ [(44, [], [(0, [(0, 1)]), (0, [(1, 1)]), (1, [(2, 1)])])] := hf
  simp only [List.mem_cons, List.not_mem_nil, or_false] at hf
  subst hf
  · simp [sv_FQk, sv_FQ, sv_evs, sv_ev, sv_evT, sv_nth, sv_adq, sv_gs, q_Ks_28, q_Q_28]
    refine ⟨⟨⟨ba, Ka⟩, ⟨bb, Kb⟩⟩, ?_⟩
    rw [sv_Qcl_iff]
    intro i i1 i2
    by_cases e : i = xn
    · rw [e]
      omega
    · exact h0 i i1 (by omega)
-- cl_a3
def q_l141 : SvM := ([(0, none), (0, none), (-1180591620717411303424, none), (-1180591620717411303424, none), (-1180591620717411303424, none), (-1180591620717411303424, none), (-1180591620717411303424, none)], [(44, [], [(0, [(0, 1)]), (0, [(1, 1)]), (0, [(2, 1)])]), (4, [146, 1], [(0, [(0, 1)]), (0, [(2, 1)]), (0, [(3, 1)])]), (2, [], [(0, [(0, 1)]), (0, [(4, 1)])]), (0, [], [(0, [(2, 1)])]), (0, [], [(-1, [(2, -1), (4, 1)])]), (0, [], [(-3, [(3, 1)])]), (0, [], [(3, [(3, -1)])]), (4, [147, 1], [(0, [(1, 1)]), (0, [(2, 1)]), (0, [(5, 1)])]), (2, [], [(0, [(1, 1)]), (0, [(6, 1)])]), (0, [], [(-1, [(2, -1), (6, 1)])]), (0, [], [(0, [(5, 1)])]), (0, [], [(149, [(5, -1)])])], [(44, [], [(0, [(0, 1)]), (0, [(1, 1)]), (1, [(2, 1)])])])
theorem q_l141_ok : ∀ (g : Int → Int → Int) (ln : Int → Int) (kf : Int → Nat) (ρ : List Int), sv_BOk ρ q_l141.1 → (∀ f ∈ q_l141.2.1, sv_FQk q_Ks q_Q g ln kf ρ f) → ∀ f ∈ q_l141.2.2, sv_FQk q_Ks q_Q g ln kf ρ f := by
  intro g ln kf ρ hb hf
  obtain ⟨hl, hb⟩ := hb
  obtain ⟨xa, r0, rfl, l0⟩ := sv_lens hl
  obtain ⟨xb, r1, rfl, l1⟩ := sv_lens l0
  obtain ⟨xn, r2, rfl, l2⟩ := sv_lens l1
  obtain ⟨xx, r3, rfl, l3⟩ := sv_lens l2
  obtain ⟨xN, r4, rfl, l4⟩ := sv_lens l3
  obtain ⟨xy, r5, rfl, l5⟩ := sv_lens l4
  obtain ⟨xM, r6, rfl, l6⟩ := sv_lens l5
  obtain rfl := sv_len0 l6
  clear l0 l1 l2 l3 l4 l5 l6 hl
  have ba : 0 ≤ xa := (hb 0 _ _ rfl rfl).1
  have bb : 0 ≤ xb := (hb 1 _ _ rfl rfl).1
  clear hb
  have h0 := hf _ (List.mem_of_getElem? (i := 0) rfl)
  simp [sv_FQk, sv_FQ, sv_evs, sv_ev, sv_evT, sv_nth, sv_adq, sv_gs, q_Ks_28, q_Q_28] at h0
  have h1 := hf _ (List.mem_of_getElem? (i := 1) rfl)
  simp [sv_FQk, sv_FQ, sv_evs, sv_ev, sv_evT, sv_nth, sv_adq, sv_gs] at h1
  have h2 := hf _ (List.mem_of_getElem? (i := 2) rfl)
  simp [sv_FQk, sv_FQ, sv_evs, sv_ev, sv_evT, sv_nth, sv_adq, sv_gs] at h2
  have h3 := hf _ (List.mem_of_getElem? (i := 3) rfl)
  simp [sv_FQk, sv_FQ, sv_evs, sv_ev, sv_evT, sv_nth, sv_adq, sv_gs] at h3
  have h4 := hf _ (List.mem_of_getElem? (i := 4) rfl)
  simp [sv_FQk, sv_FQ, sv_evs, sv_ev, sv_evT, sv_nth, sv_adq, sv_gs] at h4
  have h5 := hf _ (List.mem_of_getElem? (i := 5) rfl)
  simp [sv_FQk, sv_FQ, sv_evs, sv_ev, sv_evT, sv_nth, sv_adq, sv_gs] at h5
  have h6 := hf _ (List.mem_of_getElem? (i := 6) rfl)
  simp [sv_FQk, sv_FQ, sv_evs, sv_ev, sv_evT, sv_nth, sv_adq, sv_gs] at h6
  have h7 := hf _ (List.mem_of_getElem? (i := 7) rfl)
  simp [sv_FQk, sv_FQ, sv_evs, sv_ev, sv_evT, sv_nth, sv_adq, sv_gs] at h7
  have h8 := hf _ (List.mem_of_getElem? (i := 8) rfl)
  simp [sv_FQk, sv_FQ, sv_evs, sv_ev, sv_evT, sv_nth, sv_adq, sv_gs] at h8
  have h9 := hf _ (List.mem_of_getElem? (i := 9) rfl)
  simp [sv_FQk, sv_FQ, sv_evs, sv_ev, sv_evT, sv_nth, sv_adq, sv_gs] at h9
  have h10 := hf _ (List.mem_of_getElem? (i := 10) rfl)
  simp [sv_FQk, sv_FQ, sv_evs, sv_ev, sv_evT, sv_nth, sv_adq, sv_gs] at h10
  have h11 := hf _ (List.mem_of_getElem? (i := 11) rfl)
  simp [sv_FQk, sv_FQ, sv_evs, sv_ev, sv_evT, sv_nth, sv_adq, sv_gs] at h11
  clear hf
  obtain ⟨⟨⟨-, Ka⟩, ⟨-, Kb⟩⟩, h0⟩ := h0
  rw [sv_Qcl_iff] at h0
  replace h1 := h1 ba (by omega) (by have := h2 ba; omega)
  replace h7 := h7 bb (by omega) (by have := h8 bb; omega)
  intro f hf
  have hf : f ∈ [(44, [], [(0, [(0, 1)]), (0, [(1, 1)]), (1, [(2, 1)])])] := hf
  simp only [List.mem_cons, List.not_mem_nil, or_false] at hf
  subst hf
  · simp [sv_FQk, sv_FQ, sv_evs, sv_ev, sv_evT, sv_nth, sv_adq, sv_gs, q_Ks_28, q_Q_28]
    refine ⟨⟨⟨ba, Ka⟩, ⟨bb, Kb⟩⟩, ?_⟩
    rw [sv_Qcl_iff]
    intro i i1 i2
    by_cases e : i = xn
    · rw [e]
      omega
    · exact h0 i i1 (by omega)
-- wk_0
def q_l142 : SvM := ([(0, none)], [(1, [38], [(0, [(0, 1)])])], [(45, [], [(0, [(0, 1)]), (0, []), (4, [])])])
theorem q_l142_ok : ∀ (g : Int → Int → Int) (ln : Int → Int) (kf : Int → Nat) (ρ : List Int), sv_BOk ρ q_l142.1 → (∀ f ∈ q_l142.2.1, sv_FQk q_Ks q_Q g ln kf ρ f) → ∀ f ∈ q_l142.2.2, sv_FQk q_Ks q_Q g ln kf ρ f := by
  intro g ln kf ρ hb hf
  obtain ⟨hl, hb⟩ := hb
  obtain ⟨xa, r0, rfl, l0⟩ := sv_lens hl
  obtain rfl := sv_len0 l0
  clear l0 hl
  have ba : 0 ≤ xa := (hb 0 _ _ rfl rfl).1
  clear hb
  have h0 := hf _ (List.mem_of_getElem? (i := 0) rfl)
  simp [sv_FQk, sv_FQ, sv_evs, sv_ev, sv_evT, sv_nth, sv_adq, sv_gs] at h0
  clear hf
  have Ka : kf xa = 38 := by omega
  intro f hf
  have hf : f ∈ [(45, [], [(0, [(0, 1)]), (0, []), (4, [])])] := hf
  simp only [List.mem_cons, List.not_mem_nil, or_false] at hf
  subst hf
  · simp [sv_FQk, sv_FQ, sv_evs, sv_ev, sv_evT, sv_nth, sv_adq, sv_gs, q_Ks_29, q_Q_29]
    refine ⟨⟨ba, Ka⟩, ?_⟩
    rw [sv_Qwk_iff]
    rfl
-- wk_s1
def q_l143 : SvM := ([(0, none), (-1180591620717411303424, none), (-1180591620717411303424, none), (-1180591620717411303424, none), (-1180591620717411303424, none)], [(45, [], [(0, [(0, 1)]), (0, [(1, 1)]), (0, [(2, 1)])]), (4, [38, 1], [(0, [(0, 1)]), (0, [(2, 1)]), (0, [(3, 1)])]), (2, [], [(0, [(0, 1)]), (0, [(4, 1)])]), (0, [], [(0, [(2, 1)])]), (0, [], [(-1, [(2, -1), (4, 1)])]), (0, [], [(0, [(1, 1)])]), (0, [], [(1, [(3, -1)])]), (0, [], [(-1, [(3, 1)])])], [(45, [], [(0, [(0, 1)]), (1, [(1, 1)]), (65, [(2, 1)])])])
theorem q_l143_ok : ∀ (g : Int → Int → Int) (ln : Int → Int) (kf : Int → Nat) (ρ : List Int), sv_BOk ρ q_l143.1 → (∀ f ∈ q_l143.2.1, sv_FQk q_Ks q_Q g ln kf ρ f) → ∀ f ∈ q_l143.2.2, sv_FQk q_Ks q_Q g ln kf ρ f := by
  intro g ln kf ρ hb hf
  obtain ⟨hl, hb⟩ := hb
  obtain ⟨xa, r0, rfl, l0⟩ := sv_lens hl
  obtain ⟨xs, r1, rfl, l1⟩ := sv_lens l0
  obtain ⟨xp, r2, rfl, l2⟩ := sv_lens l1
  obtain ⟨xx, r3, rfl, l3⟩ := sv_lens l2
  obtain ⟨xN, r4, rfl, l4⟩ := sv_lens l3
  obtain rfl := sv_len0 l4
  clear l0 l1 l2 l3 l4 hl
  have ba : 0 ≤ xa := (hb 0 _ _ rfl rfl).1
  clear hb
  have h0 := hf _ (List.mem_of_getElem? (i := 0) rfl)
  simp [sv_FQk, sv_FQ, sv_evs, sv_ev, sv_evT, sv_nth, sv_adq, sv_gs, q_Ks_29, q_Q_29] at h0
  have h1 := hf _ (List.mem_of_getElem? (i := 1) rfl)
  simp [sv_FQk, sv_FQ, sv_evs, sv_ev, sv_evT, sv_nth, sv_adq, sv_gs] at h1
  have h2 := hf _ (List.mem_of_getElem? (i := 2) rfl)
  simp [sv_FQk, sv_FQ, sv_evs, sv_ev, sv_evT, sv_nth, sv_adq, sv_gs] at h2
  have h3 := hf _ (List.mem_of_getElem? (i := 3) rfl)
  simp [sv_FQk, sv_FQ, sv_evs, sv_ev, sv_evT, sv_nth, sv_adq, sv_gs] at h3
  have h4 := hf _ (List.mem_of_getElem? (i := 4) rfl)
  simp [sv_FQk, sv_FQ, sv_evs, sv_ev, sv_evT, sv_nth, sv_adq, sv_gs] at h4
  have h5 := hf _ (List.mem_of_getElem? (i := 5) rfl)
  simp [sv_FQk, sv_FQ, sv_evs, sv_ev, sv_evT, sv_nth, sv_adq, sv_gs] at h5
  have h6 := hf _ (List.mem_of_getElem? (i := 6) rfl)
  simp [sv_FQk, sv_FQ, sv_evs, sv_ev, sv_evT, sv_nth, sv_adq, sv_gs] at h6
  have h7 := hf _ (List.mem_of_getElem? (i := 7) rfl)
  simp [sv_FQk, sv_FQ, sv_evs, sv_ev, sv_evT, sv_nth, sv_adq, sv_gs] at h7
  clear hf
  obtain ⟨⟨-, Ka⟩, h0⟩ := h0
  rw [sv_Qwk_iff] at h0
  replace h1 := h1 ba (by omega) (by have := h2 ba; omega)
  intro f hf
  have hf : f ∈ [(45, [], [(0, [(0, 1)]), (1, [(1, 1)]), (65, [(2, 1)])])] := hf
  simp only [List.mem_cons, List.not_mem_nil, or_false] at hf
  subst hf
  · simp [sv_FQk, sv_FQ, sv_evs, sv_ev, sv_evT, sv_nth, sv_adq, sv_gs, q_Ks_29, q_Q_29]
    refine ⟨⟨ba, Ka⟩, ?_⟩
    rw [sv_Qwk_iff]
    rw [sv_wk_step (by omega) h0, h1]
    have e : sv_wk1 xx = 65 := if_pos (by omega)
    omega
-- wk_m1
def q_l144 : SvM := ([(0, none), (-1180591620717411303424, none), (-1180591620717411303424, none), (-1180591620717411303424, none), (-1180591620717411303424, none), (-1180591620717411303424, none), (-1180591620717411303424, none)], [(45, [], [(0, [(0, 1)]), (0, [(1, 1)]), (0, [(2, 1)])]), (45, [], [(0, [(0, 1)]), (0, [(3, 1)]), (0, [(4, 1)])]), (0, [], [(0, [(1, 1)])]), (0, [], [(-1, [(1, -1), (3, 1)])]), (4, [38, 1], [(0, [(0, 1)]), (0, [(2, 1)]), (0, [(5, 1)])]), (2, [], [(0, [(0, 1)]), (0, [(6, 1)])]), (0, [], [(0, [(2, 1)])]), (0, [], [(-1, [(2, -1), (6, 1)])]), (0, [], [(1, [(5, -1)])]), (0, [], [(-1, [(5, 1)])])], [(0, [], [(-65, [(2, -1), (4, 1)])])])
theorem q_l144_ok : ∀ (g : Int → Int → Int) (ln : Int → Int) (kf : Int → Nat) (ρ : List Int), sv_BOk ρ q_l144.1 → (∀ f ∈ q_l144.2.1, sv_FQk q_Ks q_Q g ln kf ρ f) → ∀ f ∈ q_l144.2.2, sv_FQk q_Ks q_Q g ln kf ρ f := by
  intro g ln kf ρ hb hf
  obtain ⟨hl, hb⟩ := hb
  obtain ⟨xa, r0, rfl, l0⟩ := sv_lens hl
  obtain ⟨xs, r1, rfl, l1⟩ := sv_lens l0
  obtain ⟨xp, r2, rfl, l2⟩ := sv_lens l1
  obtain ⟨xn, r3, rfl, l3⟩ := sv_lens l2
  obtain ⟨xe, r4, rfl, l4⟩ := sv_lens l3
  obtain ⟨xx, r5, rfl, l5⟩ := sv_lens l4
  obtain ⟨xN, r6, rfl, l6⟩ := sv_lens l5
  obtain rfl := sv_len0 l6
  clear l0 l1 l2 l3 l4 l5 l6 hl
  have ba : 0 ≤ xa := (hb 0 _ _ rfl rfl).1
  clear hb
  have h0 := hf _ (List.mem_of_getElem? (i := 0) rfl)
  simp [sv_FQk, sv_FQ, sv_evs, sv_ev, sv_evT, sv_nth, sv_adq, sv_gs, q_Ks_29, q_Q_29] at h0
  have h1 := hf _ (List.mem_of_getElem? (i := 1) rfl)
  simp [sv_FQk, sv_FQ, sv_evs, sv_ev, sv_evT, sv_nth, sv_adq, sv_gs, q_Ks_29, q_Q_29] at h1
  have h2 := hf _ (List.mem_of_getElem? (i := 2) rfl)
  simp [sv_FQk, sv_FQ, sv_evs, sv_ev, sv_evT, sv_nth, sv_adq, sv_gs] at h2
  have h3 := hf _ (List.mem_of_getElem? (i := 3) rfl)
  simp [sv_FQk, sv_FQ, sv_evs, sv_ev, sv_evT, sv_nth, sv_adq, sv_gs] at h3
  have h4 := hf _ (List.mem_of_getElem? (i := 4) rfl)
  simp [sv_FQk, sv_FQ, sv_evs, sv_ev, sv_evT, sv_nth, sv_adq, sv_gs] at h4
  have h5 := hf _ (List.mem_of_getElem? (i := 5) rfl)
  simp [sv_FQk, sv_FQ, sv_evs, sv_ev, sv_evT, sv_nth, sv_adq, sv_gs] at h5
  have h6 := hf _ (List.mem_of_getElem? (i := 6) rfl)
  simp [sv_FQk, sv_FQ, sv_evs, sv_ev, sv_evT, sv_nth, sv_adq, sv_gs] at h6
  have h7 := hf _ (List.mem_of_getElem? (i := 7) rfl)
  simp [sv_FQk, sv_FQ, sv_evs, sv_ev, sv_evT, sv_nth, sv_adq, sv_gs] at h7
  have h8 := hf _ (List.mem_of_getElem? (i := 8) rfl)
  simp [sv_FQk, sv_FQ, sv_evs, sv_ev, sv_evT, sv_nth, sv_adq, sv_gs] at h8
  have h9 := hf _ (List.mem_of_getElem? (i := 9) rfl)
  simp [sv_FQk, sv_FQ, sv_evs, sv_ev, sv_evT, sv_nth, sv_adq, sv_gs] at h9
  clear hf
  obtain ⟨⟨-, Ka⟩, h0⟩ := h0
  rw [sv_Qwk_iff] at h0
  obtain ⟨⟨-, Ka⟩, h1⟩ := h1
  rw [sv_Qwk_iff] at h1
  replace h4 := h4 ba (by omega) (by have := h5 ba; omega)
  intro f hf
  have hf : f ∈ [(0, [], [(-65, [(2, -1), (4, 1)])])] := hf
  simp only [List.mem_cons, List.not_mem_nil, or_false] at hf
  subst hf
  · simp [sv_FQk, sv_FQ, sv_evs, sv_ev, sv_evT, sv_nth, sv_adq, sv_gs]
    have q := sv_wk_step (by omega) h0
    rw [h4] at q
    have e : sv_wk1 xx = 65 := if_pos (by omega)
    have r := sv_wk_mono (f := g xa) (n := (1 + xs).toNat) (m := xn.toNat) (by omega)
    omega
-- wk_s2
def q_l145 : SvM := ([(0, none), (-1180591620717411303424, none), (-1180591620717411303424, none), (-1180591620717411303424, none), (-1180591620717411303424, none)], [(45, [], [(0, [(0, 1)]), (0, [(1, 1)]), (0, [(2, 1)])]), (4, [38, 1], [(0, [(0, 1)]), (0, [(2, 1)]), (0, [(3, 1)])]), (2, [], [(0, [(0, 1)]), (0, [(4, 1)])]), (0, [], [(0, [(2, 1)])]), (0, [], [(-1, [(2, -1), (4, 1)])]), (0, [], [(0, [(1, 1)])]), (0, [], [(2, [(3, -1)])]), (0, [], [(-2, [(3, 1)])])], [(45, [], [(0, [(0, 1)]), (1, [(1, 1)]), (2, [(2, 1)])])])
theorem q_l145_ok : ∀ (g : Int → Int → Int) (ln : Int → Int) (kf : Int → Nat) (ρ : List Int), sv_BOk ρ q_l145.1 → (∀ f ∈ q_l145.2.1, sv_FQk q_Ks q_Q g ln kf ρ f) → ∀ f ∈ q_l145.2.2, sv_FQk q_Ks q_Q g ln kf ρ f := by
  intro g ln kf ρ hb hf
  obtain ⟨hl, hb⟩ := hb
  obtain ⟨xa, r0, rfl, l0⟩ := sv_lens hl
  obtain ⟨xs, r1, rfl, l1⟩ := sv_lens l0
  obtain ⟨xp, r2, rfl, l2⟩ := sv_lens l1
  obtain ⟨xx, r3, rfl, l3⟩ := sv_lens l2
  obtain ⟨xN, r4, rfl, l4⟩ := sv_lens l3
  obtain rfl := sv_len0 l4
  clear l0 l1 l2 l3 l4 hl
  have ba : 0 ≤ xa := (hb 0 _ _ rfl rfl).1
  clear hb
  have h0 := hf _ (List.mem_of_getElem? (i := 0) rfl)
  simp [sv_FQk, sv_FQ, sv_evs, sv_ev, sv_evT, sv_nth, sv_adq, sv_gs, q_Ks_29, q_Q_29] at h0
  have h1 := hf _ (List.mem_of_getElem? (i := 1) rfl)
  simp [sv_FQk, sv_FQ, sv_evs, sv_ev, sv_evT, sv_nth, sv_adq, sv_gs] at h1
  have h2 := hf _ (List.mem_of_getElem? (i := 2) rfl)
  simp [sv_FQk, sv_FQ, sv_evs, sv_ev, sv_evT, sv_nth, sv_adq, sv_gs] at h2
  have h3 := hf _ (List.mem_of_getElem? (i := 3) rfl)
  simp [sv_FQk, sv_FQ, sv_evs, sv_ev, sv_evT, sv_nth, sv_adq, sv_gs] at h3
  have h4 := hf _ (List.mem_of_getElem? (i := 4) rfl)
  simp [sv_FQk, sv_FQ, sv_evs, sv_ev, sv_evT, sv_nth, sv_adq, sv_gs] at h4
  have h5 := hf _ (List.mem_of_getElem? (i := 5) rfl)
  simp [sv_FQk, sv_FQ, sv_evs, sv_ev, sv_evT, sv_nth, sv_adq, sv_gs] at h5
  have h6 := hf _ (List.mem_of_getElem? (i := 6) rfl)
  simp [sv_FQk, sv_FQ, sv_evs, sv_ev, sv_evT, sv_nth, sv_adq, sv_gs] at h6
  have h7 := hf _ (List.mem_of_getElem? (i := 7) rfl)
  simp [sv_FQk, sv_FQ, sv_evs, sv_ev, sv_evT, sv_nth, sv_adq, sv_gs] at h7
  clear hf
  obtain ⟨⟨-, Ka⟩, h0⟩ := h0
  rw [sv_Qwk_iff] at h0
  replace h1 := h1 ba (by omega) (by have := h2 ba; omega)
  intro f hf
  have hf : f ∈ [(45, [], [(0, [(0, 1)]), (1, [(1, 1)]), (2, [(2, 1)])])] := hf
  simp only [List.mem_cons, List.not_mem_nil, or_false] at hf
  subst hf
  · simp [sv_FQk, sv_FQ, sv_evs, sv_ev, sv_evT, sv_nth, sv_adq, sv_gs, q_Ks_29, q_Q_29]
    refine ⟨⟨ba, Ka⟩, ?_⟩
    rw [sv_Qwk_iff]
    rw [sv_wk_step (by omega) h0, h1]
    have e : sv_wk1 xx = 2 := by unfold sv_wk1; rw [if_neg (by omega), if_pos (by omega)]
    omega
-- wk_m2
def q_l146 : SvM := ([(0, none), (-1180591620717411303424, none), (-1180591620717411303424, none), (-1180591620717411303424, none), (-1180591620717411303424, none), (-1180591620717411303424, none), (-1180591620717411303424, none)], [(45, [], [(0, [(0, 1)]), (0, [(1, 1)]), (0, [(2, 1)])]), (45, [], [(0, [(0, 1)]), (0, [(3, 1)]), (0, [(4, 1)])]), (0, [], [(0, [(1, 1)])]), (0, [], [(-1, [(1, -1), (3, 1)])]), (4, [38, 1], [(0, [(0, 1)]), (0, [(2, 1)]), (0, [(5, 1)])]), (2, [], [(0, [(0, 1)]), (0, [(6, 1)])]), (0, [], [(0, [(2, 1)])]), (0, [], [(-1, [(2, -1), (6, 1)])]), (0, [], [(2, [(5, -1)])]), (0, [], [(-2, [(5, 1)])])], [(0, [], [(-2, [(2, -1), (4, 1)])])])
theorem q_l146_ok : ∀ (g : Int → Int → Int) (ln : Int → Int) (kf : Int → Nat) (ρ : List Int), sv_BOk ρ q_l146.1 → (∀ f ∈ q_l146.2.1, sv_FQk q_Ks q_Q g ln kf ρ f) → ∀ f ∈ q_l146.2.2, sv_FQk q_Ks q_Q g ln kf ρ f := by
  intro g ln kf ρ hb hf
  obtain ⟨hl, hb⟩ := hb
  obtain ⟨xa, r0, rfl, l0⟩ := sv_lens hl
  obtain ⟨xs, r1, rfl, l1⟩ := sv_lens l0
  obtain ⟨xp, r2, rfl, l2⟩ := sv_lens l1
  obtain ⟨xn, r3, rfl, l3⟩ := sv_lens l2
  obtain ⟨xe, r4, rfl, l4⟩ := sv_lens l3
  obtain ⟨xx, r5, rfl, l5⟩ := sv_lens l4
  obtain ⟨xN, r6, rfl, l6⟩ := sv_lens l5
  obtain rfl := sv_len0 l6
  clear l0 l1 l2 l3 l4 l5 l6 hl
  have ba : 0 ≤ xa := (hb 0 _ _ rfl rfl).1
  clear hb
  have h0 := hf _ (List.mem_of_getElem? (i := 0) rfl)
  simp [sv_FQk, sv_FQ, sv_evs, sv_ev, sv_evT, sv_nth, sv_adq, sv_gs, q_Ks_29, q_Q_29] at h0
  have h1 := hf _ (List.mem_of_getElem? (i := 1) rfl)
  simp [sv_FQk, sv_FQ, sv_evs, sv_ev, sv_evT, sv_nth, sv_adq, sv_gs, q_Ks_29, q_Q_29] at h1
  have h2 := hf _ (List.mem_of_getElem? (i := 2) rfl)
  simp [sv_FQk, sv_FQ, sv_evs, sv_ev, sv_evT, sv_nth, sv_adq, sv_gs] at h2
  have h3 := hf _ (List.mem_of_getElem? (i := 3) rfl)
  simp [sv_FQk, sv_FQ, sv_evs, sv_ev, sv_evT, sv_nth, sv_adq, sv_gs] at h3
  have h4 := hf _ (List.mem_of_getElem? (i := 4) rfl)
  simp [sv_FQk, sv_FQ, sv_evs, sv_ev, sv_evT, sv_nth, sv_adq, sv_gs] at h4
  have h5 := hf _ (List.mem_of_getElem? (i := 5) rfl)
  simp [sv_FQk, sv_FQ, sv_evs, sv_ev, sv_evT, sv_nth, sv_adq, sv_gs] at h5
  have h6 := hf _ (List.mem_of_getElem? (i := 6) rfl)
  simp [sv_FQk, sv_FQ, sv_evs, sv_ev, sv_evT, sv_nth, sv_adq, sv_gs] at h6
  have h7 := hf _ (List.mem_of_getElem? (i := 7) rfl)
  simp [sv_FQk, sv_FQ, sv_evs, sv_ev, sv_evT, sv_nth, sv_adq, sv_gs] at h7
  have h8 := hf _ (List.mem_of_getElem? (i := 8) rfl)
  simp [sv_FQk, sv_FQ, sv_evs, sv_ev, sv_evT, sv_nth, sv_adq, sv_gs] at h8
  have h9 := hf _ (List.mem_of_getElem? (i := 9) rfl)
  simp [sv_FQk, sv_FQ, sv_evs, sv_ev, sv_evT, sv_nth, sv_adq, sv_gs] at h9
  clear hf
  obtain ⟨⟨-, Ka⟩, h0⟩ := h0
  rw [sv_Qwk_iff] at h0
  obtain ⟨⟨-, Ka⟩, h1⟩ := h1
  rw [sv_Qwk_iff] at h1
  replace h4 := h4 ba (by omega) (by have := h5 ba; omega)
  intro f hf
  have hf : f ∈ [(0, [], [(-2, [(2, -1), (4, 1)])])] := hf
  simp only [List.mem_cons, List.not_mem_nil, or_false] at hf
  subst hf
  · simp [sv_FQk, sv_FQ, sv_evs, sv_ev, sv_evT, sv_nth, sv_adq, sv_gs]
    have q := sv_wk_step (by omega) h0
    rw [h4] at q
    have e : sv_wk1 xx = 2 := by unfold sv_wk1; rw [if_neg (by omega), if_pos (by omega)]
    have r := sv_wk_mono (f := g xa) (n := (1 + xs).toNat) (m := xn.toNat) (by omega)
    omega
-- wk_s3
def q_l147 : SvM := ([(0, none), (-1180591620717411303424, none), (-1180591620717411303424, none), (-1180591620717411303424, none), (-1180591620717411303424, none)], [(45, [], [(0, [(0, 1)]), (0, [(1, 1)]), (0, [(2, 1)])]), (4, [38, 1], [(0, [(0, 1)]), (0, [(2, 1)]), (0, [(3, 1)])]), (2, [], [(0, [(0, 1)]), (0, [(4, 1)])]), (0, [], [(0, [(2, 1)])]), (0, [], [(-1, [(2, -1), (4, 1)])]), (0, [], [(0, [(1, 1)])]), (0, [], [(0, [(3, -1)])])], [(45, [], [(0, [(0, 1)]), (1, [(1, 1)]), (1, [(2, 1)])])])
theorem q_l147_ok : ∀ (g : Int → Int → Int) (ln : Int → Int) (kf : Int → Nat) (ρ : List Int), sv_BOk ρ q_l147.1 → (∀ f ∈ q_l147.2.1, sv_FQk q_Ks q_Q g ln kf ρ f) → ∀ f ∈ q_l147.2.2, sv_FQk q_Ks q_Q g ln kf ρ f := by
  intro g ln kf ρ hb hf
  obtain ⟨hl, hb⟩ := hb
  obtain ⟨xa, r0, rfl, l0⟩ := sv_lens hl
  obtain ⟨xs, r1, rfl, l1⟩ := sv_lens l0
  obtain ⟨xp, r2, rfl, l2⟩ := sv_lens l1
  obtain ⟨xx, r3, rfl, l3⟩ := sv_lens l2
  obtain ⟨xN, r4, rfl, l4⟩ := sv_lens l3
  obtain rfl := sv_len0 l4
  clear l0 l1 l2 l3 l4 hl
  have ba : 0 ≤ xa := (hb 0 _ _ rfl rfl).1
  clear hb
  have h0 := hf _ (List.mem_of_getElem? (i := 0) rfl)
  simp [sv_FQk, sv_FQ, sv_evs, sv_ev, sv_evT, sv_nth, sv_adq, sv_gs, q_Ks_29, q_Q_29] at h0
  have h1 := hf _ (List.mem_of_getElem? (i := 1) rfl)
  simp [sv_FQk, sv_FQ, sv_evs, sv_ev, sv_evT, sv_nth, sv_adq, sv_gs] at h1
  have h2 := hf _ (List.mem_of_getElem? (i := 2) rfl)
  simp [sv_FQk, sv_FQ, sv_evs, sv_ev, sv_evT, sv_nth, sv_adq, sv_gs] at h2
  have h3 := hf _ (List.mem_of_getElem? (i := 3) rfl)
  simp [sv_FQk, sv_FQ, sv_evs, sv_ev, sv_evT, sv_nth, sv_adq, sv_gs] at h3
  have h4 := hf _ (List.mem_of_getElem? (i := 4) rfl)
  simp [sv_FQk, sv_FQ, sv_evs, sv_ev, sv_evT, sv_nth, sv_adq, sv_gs] at h4
  have h5 := hf _ (List.mem_of_getElem? (i := 5) rfl)
  simp [sv_FQk, sv_FQ, sv_evs, sv_ev, sv_evT, sv_nth, sv_adq, sv_gs] at h5
  have h6 := hf _ (List.mem_of_getElem? (i := 6) rfl)
  simp [sv_FQk, sv_FQ, sv_evs, sv_ev, sv_evT, sv_nth, sv_adq, sv_gs] at h6
  clear hf
  obtain ⟨⟨-, Ka⟩, h0⟩ := h0
  rw [sv_Qwk_iff] at h0
  replace h1 := h1 ba (by omega) (by have := h2 ba; omega)
  intro f hf
  have hf : f ∈ [(45, [], [(0, [(0, 1)]), (1, [(1, 1)]), (1, [(2, 1)])])] := hf
  simp only [List.mem_cons, List.not_mem_nil, or_false] at hf
  subst hf
  · simp [sv_FQk, sv_FQ, sv_evs, sv_ev, sv_evT, sv_nth, sv_adq, sv_gs, q_Ks_29, q_Q_29]
    refine ⟨⟨ba, Ka⟩, ?_⟩
    rw [sv_Qwk_iff]
    rw [sv_wk_step (by omega) h0, h1]
    have e : sv_wk1 xx = 1 := by unfold sv_wk1; rw [if_neg (by omega), if_neg (by omega)]
    omega
-- wk_m3
def q_l148 : SvM := ([(0, none), (-1180591620717411303424, none), (-1180591620717411303424, none), (-1180591620717411303424, none), (-1180591620717411303424, none), (-1180591620717411303424, none), (-1180591620717411303424, none)], [(45, [], [(0, [(0, 1)]), (0, [(1, 1)]), (0, [(2, 1)])]), (45, [], [(0, [(0, 1)]), (0, [(3, 1)]), (0, [(4, 1)])]), (0, [], [(0, [(1, 1)])]), (0, [], [(-1, [(1, -1), (3, 1)])]), (4, [38, 1], [(0, [(0, 1)]), (0, [(2, 1)]), (0, [(5, 1)])]), (2, [], [(0, [(0, 1)]), (0, [(6, 1)])]), (0, [], [(0, [(2, 1)])]), (0, [], [(-1, [(2, -1), (6, 1)])]), (0, [], [(0, [(5, -1)])])], [(0, [], [(-1, [(2, -1), (4, 1)])])])
theorem q_l148_ok : ∀ (g : Int → Int → Int) (ln : Int → Int) (kf : Int → Nat) (ρ : List Int), sv_BOk ρ q_l148.1 → (∀ f ∈ q_l148.2.1, sv_FQk q_Ks q_Q g ln kf ρ f) → ∀ f ∈ q_l148.2.2, sv_FQk q_Ks q_Q g ln kf ρ f := by
  intro g ln kf ρ hb hf
  obtain ⟨hl, hb⟩ := hb
  obtain ⟨xa, r0, rfl, l0⟩ := sv_lens hl
  obtain ⟨xs, r1, rfl, l1⟩ := sv_lens l0
  obtain ⟨xp, r2, rfl, l2⟩ := sv_lens l1
  obtain ⟨xn, r3, rfl, l3⟩ := sv_lens l2
  obtain ⟨xe, r4, rfl, l4⟩ := sv_lens l3
  obtain ⟨xx, r5, rfl, l5⟩ := sv_lens l4
  obtain ⟨xN, r6, rfl, l6⟩ := sv_lens l5
  obtain rfl := sv_len0 l6
  clear l0 l1 l2 l3 l4 l5 l6 hl
  have ba : 0 ≤ xa := (hb 0 _ _ rfl rfl).1
  clear hb
  have h0 := hf _ (List.mem_of_getElem? (i := 0) rfl)
  simp [sv_FQk, sv_FQ, sv_evs, sv_ev, sv_evT, sv_nth, sv_adq, sv_gs, q_Ks_29, q_Q_29] at h0
  have h1 := hf _ (List.mem_of_getElem? (i := 1) rfl)
  simp [sv_FQk, sv_FQ, sv_evs, sv_ev, sv_evT, sv_nth, sv_adq, sv_gs, q_Ks_29, q_Q_29] at h1
  have h2 := hf _ (List.mem_of_getElem? (i := 2) rfl)
  simp [sv_FQk, sv_FQ, sv_evs, sv_ev, sv_evT, sv_nth, sv_adq, sv_gs] at h2
  have h3 := hf _ (List.mem_of_getElem? (i := 3) rfl)
  simp [sv_FQk, sv_FQ, sv_evs, sv_ev, sv_evT, sv_nth, sv_adq, sv_gs] at h3
  have h4 := hf _ (List.mem_of_getElem? (i := 4) rfl)
  simp [sv_FQk, sv_FQ, sv_evs, sv_ev, sv_evT, sv_nth, sv_adq, sv_gs] at h4
  have h5 := hf _ (List.mem_of_getElem? (i := 5) rfl)
  simp [sv_FQk, sv_FQ, sv_evs, sv_ev, sv_evT, sv_nth, sv_adq, sv_gs] at h5
  have h6 := hf _ (List.mem_of_getElem? (i := 6) rfl)
  simp [sv_FQk, sv_FQ, sv_evs, sv_ev, sv_evT, sv_nth, sv_adq, sv_gs] at h6
  have h7 := hf _ (List.mem_of_getElem? (i := 7) rfl)
  simp [sv_FQk, sv_FQ, sv_evs, sv_ev, sv_evT, sv_nth, sv_adq, sv_gs] at h7
  have h8 := hf _ (List.mem_of_getElem? (i := 8) rfl)
  simp [sv_FQk, sv_FQ, sv_evs, sv_ev, sv_evT, sv_nth, sv_adq, sv_gs] at h8
  clear hf
  obtain ⟨⟨-, Ka⟩, h0⟩ := h0
  rw [sv_Qwk_iff] at h0
  obtain ⟨⟨-, Ka⟩, h1⟩ := h1
  rw [sv_Qwk_iff] at h1
  replace h4 := h4 ba (by omega) (by have := h5 ba; omega)
  intro f hf
  have hf : f ∈ [(0, [], [(-1, [(2, -1), (4, 1)])])] := hf
  simp only [List.mem_cons, List.not_mem_nil, or_false] at hf
  subst hf
  · simp [sv_FQk, sv_FQ, sv_evs, sv_ev, sv_evT, sv_nth, sv_adq, sv_gs]
    have q := sv_wk_step (by omega) h0
    rw [h4] at q
    have e : sv_wk1 xx = 1 := by unfold sv_wk1; rw [if_neg (by omega), if_neg (by omega)]
    have r := sv_wk_mono (f := g xa) (n := (1 + xs).toNat) (m := xn.toNat) (by omega)
    omega
-- wk_s4
def q_l149 : SvM := ([(0, none), (-1180591620717411303424, none), (-1180591620717411303424, none), (-1180591620717411303424, none), (-1180591620717411303424, none)], [(45, [], [(0, [(0, 1)]), (0, [(1, 1)]), (0, [(2, 1)])]), (4, [38, 1], [(0, [(0, 1)]), (0, [(2, 1)]), (0, [(3, 1)])]), (2, [], [(0, [(0, 1)]), (0, [(4, 1)])]), (0, [], [(0, [(2, 1)])]), (0, [], [(-1, [(2, -1), (4, 1)])]), (0, [], [(0, [(1, 1)])]), (0, [], [(-3, [(3, 1)])])], [(45, [], [(0, [(0, 1)]), (1, [(1, 1)]), (1, [(2, 1)])])])
theorem q_l149_ok : ∀ (g : Int → Int → Int) (ln : Int → Int) (kf : Int → Nat) (ρ : List Int), sv_BOk ρ q_l149.1 → (∀ f ∈ q_l149.2.1, sv_FQk q_Ks q_Q g ln kf ρ f) → ∀ f ∈ q_l149.2.2, sv_FQk q_Ks q_Q g ln kf ρ f := by
  intro g ln kf ρ hb hf
  obtain ⟨hl, hb⟩ := hb
  obtain ⟨xa, r0, rfl, l0⟩ := sv_lens hl
  obtain ⟨xs, r1, rfl, l1⟩ := sv_lens l0
  obtain ⟨xp, r2, rfl, l2⟩ := sv_lens l1
  obtain ⟨xx, r3, rfl, l3⟩ := sv_lens l2
  obtain ⟨xN, r4, rfl, l4⟩ := sv_lens l3
  obtain rfl := sv_len0 l4
  clear l0 l1 l2 l3 l4 hl
  have ba : 0 ≤ xa := (hb 0 _ _ rfl rfl).1
  clear hb
  have h0 := hf _ (List.mem_of_getElem? (i := 0) rfl)
  simp [sv_FQk, sv_FQ, sv_evs, sv_ev, sv_evT, sv_nth, sv_adq, sv_gs, q_Ks_29, q_Q_29] at h0
  have h1 := hf _ (List.mem_of_getElem? (i := 1) rfl)
  simp [sv_FQk, sv_FQ, sv_evs, sv_ev, sv_evT, sv_nth, sv_adq, sv_gs] at h1
  have h2 := hf _ (List.mem_of_getElem? (i := 2) rfl)
  simp [sv_FQk, sv_FQ, sv_evs, sv_ev, sv_evT, sv_nth, sv_adq, sv_gs] at h2
  have h3 := hf _ (List.mem_of_getElem? (i := 3) rfl)
  simp [sv_FQk, sv_FQ, sv_evs, sv_ev, sv_evT, sv_nth, sv_adq, sv_gs] at h3
  have h4 := hf _ (List.mem_of_getElem? (i := 4) rfl)
  simp [sv_FQk, sv_FQ, sv_evs, sv_ev, sv_evT, sv_nth, sv_adq, sv_gs] at h4
  have h5 := hf _ (List.mem_of_getElem? (i := 5) rfl)
  simp [sv_FQk, sv_FQ, sv_evs, sv_ev, sv_evT, sv_nth, sv_adq, sv_gs] at h5
  have h6 := hf _ (List.mem_of_getElem? (i := 6) rfl)
  simp [sv_FQk, sv_FQ, sv_evs, sv_ev, sv_evT, sv_nth, sv_adq, sv_gs] at h6
  clear hf
  obtain ⟨⟨-, Ka⟩, h0⟩ := h0
  rw [sv_Qwk_iff] at h0
  replace h1 := h1 ba (by omega) (by have := h2 ba; omega)
  intro f hf
  have hf : f ∈ [(45, [], [(0, [(0, 1)]), (1, [(1, 1)]), (1, [(2, 1)])])] := hf
  simp only [List.mem_cons, List.not_mem_nil, or_false] at hf
  subst hf
  · simp [sv_FQk, sv_FQ, sv_evs, sv_ev, sv_evT, sv_nth, sv_adq, sv_gs, q_Ks_29, q_Q_29]
    refine ⟨⟨ba, Ka⟩, ?_⟩
    rw [sv_Qwk_iff]
    rw [sv_wk_step (by omega) h0, h1]
    have e : sv_wk1 xx = 1 := by unfold sv_wk1; rw [if_neg (by omega), if_neg (by omega)]
    omega
