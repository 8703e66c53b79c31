-- ===== laws of opaque facts =====
-- lk_el
def q_l0 : SvM := ([(0, none), (-1180591620717411303424, none), (-1180591620717411303424, none), (-1180591620717411303424, none), (-1180591620717411303424, none), (-1180591620717411303424, none), (-1180591620717411303424, none), (-1180591620717411303424, none)], [(16, [], [(0, [(0, 1)]), (0, [(1, 1)]), (0, [(2, 1)]), (0, [(3, 1)]), (0, [(4, 1)])]), (4, [67, 1], [(0, [(0, 1)]), (0, [(5, 1)]), (0, [(6, 1)])]), (2, [], [(0, [(0, 1)]), (0, [(7, 1)])]), (0, [], [(0, [(1, -1), (5, 1)])]), (0, [], [(-1, [(2, 1), (5, -1)])]), (0, [], [(0, [(5, 1)])]), (0, [], [(-1, [(5, -1), (7, 1)])])], [(0, [], [(0, [(3, -1), (6, 1)])]), (0, [], [(0, [(4, 1), (6, -1)])])])
theorem q_l0_ok : ∀ (g : Int → Int → Int) (ln : Int → Int) (kf : Int → Nat) (ρ : List Int), sv_BOk ρ q_l0.1 → (∀ f ∈ q_l0.2.1, sv_FQk q_Ks q_Q g ln kf ρ f) → ∀ f ∈ q_l0.2.2, sv_FQk q_Ks q_Q g ln kf ρ f := by
  intro g ln kf ρ hb hf
  obtain ⟨hl, hb⟩ := hb
  obtain ⟨xa, r0, rfl, l0⟩ := sv_lens hl
  obtain ⟨xlo, r1, rfl, l1⟩ := sv_lens l0
  obtain ⟨xhi, r2, rfl, l2⟩ := sv_lens l1
  obtain ⟨xl, r3, rfl, l3⟩ := sv_lens l2
  obtain ⟨xu, r4, rfl, l4⟩ := sv_lens l3
  obtain ⟨xi, r5, rfl, l5⟩ := sv_lens l4
  obtain ⟨xx, r6, rfl, l6⟩ := sv_lens l5
  obtain ⟨xN, r7, rfl, l7⟩ := sv_lens l6
  obtain rfl := sv_len0 l7
  clear l0 l1 l2 l3 l4 l5 l6 l7 hl
  have ba : 0 ≤ xa := (hb 0 _ _ rfl rfl).1
  clear hb
  have h0 := hf _ (List.mem_of_getElem? (i := 0) rfl)
  simp [sv_FQk, sv_FQ, sv_evs, sv_ev, sv_evT, sv_nth, sv_adq, sv_gs, q_Ks_0, q_Q_0] at h0
  have h1 := hf _ (List.mem_of_getElem? (i := 1) rfl)
  simp [sv_FQk, sv_FQ, sv_evs, sv_ev, sv_evT, sv_nth, sv_adq, sv_gs] at h1
  have h2 := hf _ (List.mem_of_getElem? (i := 2) rfl)
  simp [sv_FQk, sv_FQ, sv_evs, sv_ev, sv_evT, sv_nth, sv_adq, sv_gs] at h2
  have h3 := hf _ (List.mem_of_getElem? (i := 3) rfl)
  simp [sv_FQk, sv_FQ, sv_evs, sv_ev, sv_evT, sv_nth, sv_adq, sv_gs] at h3
  have h4 := hf _ (List.mem_of_getElem? (i := 4) rfl)
  simp [sv_FQk, sv_FQ, sv_evs, sv_ev, sv_evT, sv_nth, sv_adq, sv_gs] at h4
  have h5 := hf _ (List.mem_of_getElem? (i := 5) rfl)
  simp [sv_FQk, sv_FQ, sv_evs, sv_ev, sv_evT, sv_nth, sv_adq, sv_gs] at h5
  have h6 := hf _ (List.mem_of_getElem? (i := 6) rfl)
  simp [sv_FQk, sv_FQ, sv_evs, sv_ev, sv_evT, sv_nth, sv_adq, sv_gs] at h6
  clear hf
  obtain ⟨⟨-, Ka⟩, h0⟩ := h0
  rw [sv_Qlin_iff] at h0
  replace h1 := h1 ba (by omega) (by have := h2 ba; omega)
  intro f hf
  have hf : f ∈ [(0, [], [(0, [(3, -1), (6, 1)])]), (0, [], [(0, [(4, 1), (6, -1)])])] := hf
  simp only [List.mem_cons, List.not_mem_nil, or_false] at hf
  rcases hf with rfl | rfl
  · simp [sv_FQk, sv_FQ, sv_evs, sv_ev, sv_evT, sv_nth, sv_adq, sv_gs]
    have q := h0 xi (by omega) (by omega)
    rw [h1] at q
    omega
  · simp [sv_FQk, sv_FQ, sv_evs, sv_ev, sv_evT, sv_nth, sv_adq, sv_gs]
    have q := h0 xi (by omega) (by omega)
    rw [h1] at q
    omega
-- lk_0
def q_l1 : SvM := ([(0, none), (-1180591620717411303424, none), (-1180591620717411303424, none), (-1180591620717411303424, none), (-1180591620717411303424, none)], [(1, [67], [(0, [(0, 1)])]), (0, [], [(0, [(1, 1), (2, -1)])])], [(16, [], [(0, [(0, 1)]), (0, [(1, 1)]), (0, [(2, 1)]), (0, [(3, 1)]), (0, [(4, 1)])])])
theorem q_l1_ok : ∀ (g : Int → Int → Int) (ln : Int → Int) (kf : Int → Nat) (ρ : List Int), sv_BOk ρ q_l1.1 → (∀ f ∈ q_l1.2.1, sv_FQk q_Ks q_Q g ln kf ρ f) → ∀ f ∈ q_l1.2.2, sv_FQk q_Ks q_Q g ln kf ρ f := by
  intro g ln kf ρ hb hf
  obtain ⟨hl, hb⟩ := hb
  obtain ⟨xa, r0, rfl, l0⟩ := sv_lens hl
  obtain ⟨xlo, r1, rfl, l1⟩ := sv_lens l0
  obtain ⟨xhi, r2, rfl, l2⟩ := sv_lens l1
  obtain ⟨xl, r3, rfl, l3⟩ := sv_lens l2
  obtain ⟨xu, r4, rfl, l4⟩ := sv_lens l3
  obtain rfl := sv_len0 l4
  clear l0 l1 l2 l3 l4 hl
  have ba : 0 ≤ xa := (hb 0 _ _ rfl rfl).1
  clear hb
  have h0 := hf _ (List.mem_of_getElem? (i := 0) rfl)
  simp [sv_FQk, sv_FQ, sv_evs, sv_ev, sv_evT, sv_nth, sv_adq, sv_gs] at h0
  have h1 := hf _ (List.mem_of_getElem? (i := 1) rfl)
  simp [sv_FQk, sv_FQ, sv_evs, sv_ev, sv_evT, sv_nth, sv_adq, sv_gs] at h1
  clear hf
  have Ka : kf xa = 67 := by omega
  intro f hf
  have hf : f ∈ [(16, [], [(0, [(0, 1)]), (0, [(1, 1)]), (0, [(2, 1)]), (0, [(3, 1)]), (0, [(4, 1)])])] := hf
  simp only [List.mem_cons, List.not_mem_nil, or_false] at hf
  subst hf
  · simp [sv_FQk, sv_FQ, sv_evs, sv_ev, sv_evT, sv_nth, sv_adq, sv_gs, q_Ks_0, q_Q_0]
    refine ⟨⟨ba, Ka⟩, ?_⟩
    rw [sv_Qlin_iff]
    intro j j1 j2
    omega
-- lk_w
def q_l2 : SvM := ([(0, none), (-1180591620717411303424, none), (-1180591620717411303424, none), (-1180591620717411303424, none), (-1180591620717411303424, none), (-1180591620717411303424, none), (-1180591620717411303424, none), (-1180591620717411303424, none), (-1180591620717411303424, none)], [(16, [], [(0, [(0, 1)]), (0, [(1, 1)]), (0, [(2, 1)]), (0, [(3, 1)]), (0, [(4, 1)])]), (0, [], [(0, [(1, -1), (5, 1)])]), (0, [], [(0, [(2, 1), (6, -1)])]), (0, [], [(0, [(3, 1), (7, -1)])]), (0, [], [(0, [(4, -1), (8, 1)])])], [(16, [], [(0, [(0, 1)]), (0, [(5, 1)]), (0, [(6, 1)]), (0, [(7, 1)]), (0, [(8, 1)])])])
theorem q_l2_ok : ∀ (g : Int → Int → Int) (ln : Int → Int) (kf : Int → Nat) (ρ : List Int), sv_BOk ρ q_l2.1 → (∀ f ∈ q_l2.2.1, sv_FQk q_Ks q_Q g ln kf ρ f) → ∀ f ∈ q_l2.2.2, sv_FQk q_Ks q_Q g ln kf ρ f := by
  intro g ln kf ρ hb hf
  obtain ⟨hl, hb⟩ := hb
  obtain ⟨xa, r0, rfl, l0⟩ := sv_lens hl
  obtain ⟨xlo, r1, rfl, l1⟩ := sv_lens l0
  obtain ⟨xhi, r2, rfl, l2⟩ := sv_lens l1
  obtain ⟨xl, r3, rfl, l3⟩ := sv_lens l2
  obtain ⟨xu, r4, rfl, l4⟩ := sv_lens l3
  obtain ⟨xlp, r5, rfl, l5⟩ := sv_lens l4
  obtain ⟨xhp, r6, rfl, l6⟩ := sv_lens l5
  obtain ⟨xkp, r7, rfl, l7⟩ := sv_lens l6
  obtain ⟨xup, r8, rfl, l8⟩ := sv_lens l7
  obtain rfl := sv_len0 l8
  clear l0 l1 l2 l3 l4 l5 l6 l7 l8 hl
  have ba : 0 ≤ xa := (hb 0 _ _ rfl rfl).1
  clear hb
  have h0 := hf _ (List.mem_of_getElem? (i := 0) rfl)
  simp [sv_FQk, sv_FQ, sv_evs, sv_ev, sv_evT, sv_nth, sv_adq, sv_gs, q_Ks_0, q_Q_0] at h0
  have h1 := hf _ (List.mem_of_getElem? (i := 1) rfl)
  simp [sv_FQk, sv_FQ, sv_evs, sv_ev, sv_evT, sv_nth, sv_adq, sv_gs] at h1
  have h2 := hf _ (List.mem_of_getElem? (i := 2) rfl)
  simp [sv_FQk, sv_FQ, sv_evs, sv_ev, sv_evT, sv_nth, sv_adq, sv_gs] at h2
  have h3 := hf _ (List.mem_of_getElem? (i := 3) rfl)
  simp [sv_FQk, sv_FQ, sv_evs, sv_ev, sv_evT, sv_nth, sv_adq, sv_gs] at h3
  have h4 := hf _ (List.mem_of_getElem? (i := 4) rfl)
  simp [sv_FQk, sv_FQ, sv_evs, sv_ev, sv_evT, sv_nth, sv_adq, sv_gs] at h4
  clear hf
  obtain ⟨⟨-, Ka⟩, h0⟩ := h0
  rw [sv_Qlin_iff] at h0
  intro f hf
  have hf : f ∈ [(16, [], [(0, [(0, 1)]), (0, [(5, 1)]), (0, [(6, 1)]), (0, [(7, 1)]), (0, [(8, 1)])])] := hf
  simp only [List.mem_cons, List.not_mem_nil, or_false] at hf
  subst hf
  · simp [sv_FQk, sv_FQ, sv_evs, sv_ev, sv_evT, sv_nth, sv_adq, sv_gs, q_Ks_0, q_Q_0]
    refine ⟨⟨ba, Ka⟩, ?_⟩
    rw [sv_Qlin_iff]
    intro j j1 j2
    have q := h0 j (by omega) (by omega)
    omega
-- lk_j
def q_l3 : SvM := ([(0, none), (-1180591620717411303424, none), (-1180591620717411303424, none), (-1180591620717411303424, none), (-1180591620717411303424, none), (-1180591620717411303424, none)], [(16, [], [(0, [(0, 1)]), (0, [(1, 1)]), (0, [(2, 1)]), (0, [(4, 1)]), (0, [(5, 1)])]), (16, [], [(0, [(0, 1)]), (0, [(2, 1)]), (0, [(3, 1)]), (0, [(4, 1)]), (0, [(5, 1)])])], [(16, [], [(0, [(0, 1)]), (0, [(1, 1)]), (0, [(3, 1)]), (0, [(4, 1)]), (0, [(5, 1)])])])
theorem q_l3_ok : ∀ (g : Int → Int → Int) (ln : Int → Int) (kf : Int → Nat) (ρ : List Int), sv_BOk ρ q_l3.1 → (∀ f ∈ q_l3.2.1, sv_FQk q_Ks q_Q g ln kf ρ f) → ∀ f ∈ q_l3.2.2, sv_FQk q_Ks q_Q g ln kf ρ f := by
  intro g ln kf ρ hb hf
  obtain ⟨hl, hb⟩ := hb
  obtain ⟨xa, r0, rfl, l0⟩ := sv_lens hl
  obtain ⟨xlo, r1, rfl, l1⟩ := sv_lens l0
  obtain ⟨xmi, r2, rfl, l2⟩ := sv_lens l1
  obtain ⟨xhi, r3, rfl, l3⟩ := sv_lens l2
  obtain ⟨xl, r4, rfl, l4⟩ := sv_lens l3
  obtain ⟨xu, r5, rfl, l5⟩ := sv_lens l4
  obtain rfl := sv_len0 l5
  clear l0 l1 l2 l3 l4 l5 hl
  have ba : 0 ≤ xa := (hb 0 _ _ rfl rfl).1
  clear hb
  have h0 := hf _ (List.mem_of_getElem? (i := 0) rfl)
  simp [sv_FQk, sv_FQ, sv_evs, sv_ev, sv_evT, sv_nth, sv_adq, sv_gs, q_Ks_0, q_Q_0] at h0
  have h1 := hf _ (List.mem_of_getElem? (i := 1) rfl)
  simp [sv_FQk, sv_FQ, sv_evs, sv_ev, sv_evT, sv_nth, sv_adq, sv_gs, q_Ks_0, q_Q_0] at h1
  clear hf
  obtain ⟨⟨-, Ka⟩, h0⟩ := h0
  rw [sv_Qlin_iff] at h0
  obtain ⟨⟨-, Ka⟩, h1⟩ := h1
  rw [sv_Qlin_iff] at h1
  intro f hf
  have hf : f ∈ [(16, [], [(0, [(0, 1)]), (0, [(1, 1)]), (0, [(3, 1)]), (0, [(4, 1)]), (0, [(5, 1)])])] := hf
  simp only [List.mem_cons, List.not_mem_nil, or_false] at hf
  subst hf
  · simp [sv_FQk, sv_FQ, sv_evs, sv_ev, sv_evT, sv_nth, sv_adq, sv_gs, q_Ks_0, q_Q_0]
    refine ⟨⟨ba, Ka⟩, ?_⟩
    rw [sv_Qlin_iff]
    intro j j1 j2
    by_cases e : j < xmi
    · exact h0 j j1 e
    · exact h1 j (by omega) j2
-- lk_app
def q_l4 : SvM := ([(0, none), (-1180591620717411303424, none), (-1180591620717411303424, none), (-1180591620717411303424, none), (-1180591620717411303424, none), (-1180591620717411303424, none), (-1180591620717411303424, none)], [(16, [], [(0, [(0, 1)]), (0, [(1, 1)]), (0, [(2, 1)]), (0, [(3, 1)]), (0, [(4, 1)])]), (4, [67, 1], [(0, [(0, 1)]), (0, [(2, 1)]), (0, [(5, 1)])]), (2, [], [(0, [(0, 1)]), (0, [(6, 1)])]), (0, [], [(0, [(2, 1)])]), (0, [], [(-1, [(2, -1), (6, 1)])]), (0, [], [(0, [(3, -1), (5, 1)])]), (0, [], [(0, [(4, 1), (5, -1)])])], [(16, [], [(0, [(0, 1)]), (0, [(1, 1)]), (1, [(2, 1)]), (0, [(3, 1)]), (0, [(4, 1)])])])
theorem q_l4_ok : ∀ (g : Int → Int → Int) (ln : Int → Int) (kf : Int → Nat) (ρ : List Int), sv_BOk ρ q_l4.1 → (∀ f ∈ q_l4.2.1, sv_FQk q_Ks q_Q g ln kf ρ f) → ∀ f ∈ q_l4.2.2, sv_FQk q_Ks q_Q g ln kf ρ f := by
  intro g ln kf ρ hb hf
  obtain ⟨hl, hb⟩ := hb
  obtain ⟨xa, r0, rfl, l0⟩ := sv_lens hl
  obtain ⟨xlo, r1, rfl, l1⟩ := sv_lens l0
  obtain ⟨xhi, r2, rfl, l2⟩ := sv_lens l1
  obtain ⟨xl, r3, rfl, l3⟩ := sv_lens l2
  obtain ⟨xu, r4, rfl, l4⟩ := sv_lens l3
  obtain ⟨xx, r5, rfl, l5⟩ := sv_lens l4
  obtain ⟨xN, r6, rfl, l6⟩ := sv_lens l5
  obtain rfl := sv_len0 l6
  clear l0 l1 l2 l3 l4 l5 l6 hl
  have ba : 0 ≤ xa := (hb 0 _ _ rfl rfl).1
  clear hb
  have h0 := hf _ (List.mem_of_getElem? (i := 0) rfl)
  simp [sv_FQk, sv_FQ, sv_evs, sv_ev, sv_evT, sv_nth, sv_adq, sv_gs, q_Ks_0, q_Q_0] at h0
  have h1 := hf _ (List.mem_of_getElem? (i := 1) rfl)
  simp [sv_FQk, sv_FQ, sv_evs, sv_ev, sv_evT, sv_nth, sv_adq, sv_gs] at h1
  have h2 := hf _ (List.mem_of_getElem? (i := 2) rfl)
  simp [sv_FQk, sv_FQ, sv_evs, sv_ev, sv_evT, sv_nth, sv_adq, sv_gs] at h2
  have h3 := hf _ (List.mem_of_getElem? (i := 3) rfl)
  simp [sv_FQk, sv_FQ, sv_evs, sv_ev, sv_evT, sv_nth, sv_adq, sv_gs] at h3
  have h4 := hf _ (List.mem_of_getElem? (i := 4) rfl)
  simp [sv_FQk, sv_FQ, sv_evs, sv_ev, sv_evT, sv_nth, sv_adq, sv_gs] at h4
  have h5 := hf _ (List.mem_of_getElem? (i := 5) rfl)
  simp [sv_FQk, sv_FQ, sv_evs, sv_ev, sv_evT, sv_nth, sv_adq, sv_gs] at h5
  have h6 := hf _ (List.mem_of_getElem? (i := 6) rfl)
  simp [sv_FQk, sv_FQ, sv_evs, sv_ev, sv_evT, sv_nth, sv_adq, sv_gs] at h6
  clear hf
  obtain ⟨⟨-, Ka⟩, h0⟩ := h0
  rw [sv_Qlin_iff] at h0
  replace h1 := h1 ba (by omega) (by have := h2 ba; omega)
  intro f hf
  have hf : f ∈ [(16, [], [(0, [(0, 1)]), (0, [(1, 1)]), (1, [(2, 1)]), (0, [(3, 1)]), (0, [(4, 1)])])] := hf
  simp only [List.mem_cons, List.not_mem_nil, or_false] at hf
  subst hf
  · simp [sv_FQk, sv_FQ, sv_evs, sv_ev, sv_evT, sv_nth, sv_adq, sv_gs, q_Ks_0, q_Q_0]
    refine ⟨⟨ba, Ka⟩, ?_⟩
    rw [sv_Qlin_iff]
    intro j j1 j2
    by_cases e : j = xhi
    · subst e
      rw [h1]
      omega
    · exact h0 j j1 (by omega)
-- lk_aw
def q_l5 : SvM := ([(0, none), (-1180591620717411303424, none), (-1180591620717411303424, none), (-1180591620717411303424, none), (-1180591620717411303424, none), (-1180591620717411303424, none), (-1180591620717411303424, none), (-1180591620717411303424, none)], [(16, [], [(0, [(0, 1)]), (0, [(1, 1)]), (0, [(2, 1)]), (0, [(3, 1)]), (0, [(4, 1)])]), (4, [67, 1], [(0, [(0, 1)]), (0, [(2, 1)]), (0, [(5, 1)])]), (2, [], [(0, [(0, 1)]), (0, [(6, 1)])]), (0, [], [(0, [(2, 1)])]), (0, [], [(-1, [(2, -1), (6, 1)])]), (0, [], [(0, [(4, -1), (7, 1)])]), (0, [], [(0, [(3, -1), (5, 1)])]), (0, [], [(0, [(5, -1), (7, 1)])])], [(16, [], [(0, [(0, 1)]), (0, [(1, 1)]), (1, [(2, 1)]), (0, [(3, 1)]), (0, [(7, 1)])])])
theorem q_l5_ok : ∀ (g : Int → Int → Int) (ln : Int → Int) (kf : Int → Nat) (ρ : List Int), sv_BOk ρ q_l5.1 → (∀ f ∈ q_l5.2.1, sv_FQk q_Ks q_Q g ln kf ρ f) → ∀ f ∈ q_l5.2.2, sv_FQk q_Ks q_Q g ln kf ρ f := by
  intro g ln kf ρ hb hf
  obtain ⟨hl, hb⟩ := hb
  obtain ⟨xa, r0, rfl, l0⟩ := sv_lens hl
  obtain ⟨xlo, r1, rfl, l1⟩ := sv_lens l0
  obtain ⟨xhi, r2, rfl, l2⟩ := sv_lens l1
  obtain ⟨xl, r3, rfl, l3⟩ := sv_lens l2
  obtain ⟨xu, r4, rfl, l4⟩ := sv_lens l3
  obtain ⟨xx, r5, rfl, l5⟩ := sv_lens l4
  obtain ⟨xN, r6, rfl, l6⟩ := sv_lens l5
  obtain ⟨xup, r7, rfl, l7⟩ := sv_lens l6
  obtain rfl := sv_len0 l7
  clear l0 l1 l2 l3 l4 l5 l6 l7 hl
  have ba : 0 ≤ xa := (hb 0 _ _ rfl rfl).1
  clear hb
  have h0 := hf _ (List.mem_of_getElem? (i := 0) rfl)
  simp [sv_FQk, sv_FQ, sv_evs, sv_ev, sv_evT, sv_nth, sv_adq, sv_gs, q_Ks_0, q_Q_0] at h0
  have h1 := hf _ (List.mem_of_getElem? (i := 1) rfl)
  simp [sv_FQk, sv_FQ, sv_evs, sv_ev, sv_evT, sv_nth, sv_adq, sv_gs] at h1
  have h2 := hf _ (List.mem_of_getElem? (i := 2) rfl)
  simp [sv_FQk, sv_FQ, sv_evs, sv_ev, sv_evT, sv_nth, sv_adq, sv_gs] at h2
  have h3 := hf _ (List.mem_of_getElem? (i := 3) rfl)
  simp [sv_FQk, sv_FQ, sv_evs, sv_ev, sv_evT, sv_nth, sv_adq, sv_gs] at h3
  have h4 := hf _ (List.mem_of_getElem? (i := 4) rfl)
  simp [sv_FQk, sv_FQ, sv_evs, sv_ev, sv_evT, sv_nth, sv_adq, sv_gs] at h4
  have h5 := hf _ (List.mem_of_getElem? (i := 5) rfl)
  simp [sv_FQk, sv_FQ, sv_evs, sv_ev, sv_evT, sv_nth, sv_adq, sv_gs] at h5
  have h6 := hf _ (List.mem_of_getElem? (i := 6) rfl)
  simp [sv_FQk, sv_FQ, sv_evs, sv_ev, sv_evT, sv_nth, sv_adq, sv_gs] at h6
  have h7 := hf _ (List.mem_of_getElem? (i := 7) rfl)
  simp [sv_FQk, sv_FQ, sv_evs, sv_ev, sv_evT, sv_nth, sv_adq, sv_gs] at h7
  clear hf
  obtain ⟨⟨-, Ka⟩, h0⟩ := h0
  rw [sv_Qlin_iff] at h0
  replace h1 := h1 ba (by omega) (by have := h2 ba; omega)
  intro f hf
  have hf : f ∈ [(16, [], [(0, [(0, 1)]), (0, [(1, 1)]), (1, [(2, 1)]), (0, [(3, 1)]), (0, [(7, 1)])])] := hf
  simp only [List.mem_cons, List.not_mem_nil, or_false] at hf
  subst hf
  · simp [sv_FQk, sv_FQ, sv_evs, sv_ev, sv_evT, sv_nth, sv_adq, sv_gs, q_Ks_0, q_Q_0]
    refine ⟨⟨ba, Ka⟩, ?_⟩
    rw [sv_Qlin_iff]
    intro j j1 j2
    by_cases e : j = xhi
    · subst e
      rw [h1]
      omega
    · have q := h0 j j1 (by omega)
      omega
-- ds_0
def q_l6 : SvM := ([(0, none), (-1180591620717411303424, none)], [(1, [67], [(0, [(0, 1)])]), (0, [], [(0, [(1, -1)])])], [(17, [], [(0, [(0, 1)]), (0, [(1, 1)])])])
theorem q_l6_ok : ∀ (g : Int → Int → Int) (ln : Int → Int) (kf : Int → Nat) (ρ : List Int), sv_BOk ρ q_l6.1 → (∀ f ∈ q_l6.2.1, sv_FQk q_Ks q_Q g ln kf ρ f) → ∀ f ∈ q_l6.2.2, sv_FQk q_Ks q_Q g ln kf ρ f := by
  intro g ln kf ρ hb hf
  obtain ⟨hl, hb⟩ := hb
  obtain ⟨xa, r0, rfl, l0⟩ := sv_lens hl
  obtain ⟨xn, r1, rfl, l1⟩ := sv_lens l0
  obtain rfl := sv_len0 l1
  clear l0 l1 hl
  have ba : 0 ≤ xa := (hb 0 _ _ rfl rfl).1
  clear hb
  have h0 := hf _ (List.mem_of_getElem? (i := 0) rfl)
  simp [sv_FQk, sv_FQ, sv_evs, sv_ev, sv_evT, sv_nth, sv_adq, sv_gs] at h0
  have h1 := hf _ (List.mem_of_getElem? (i := 1) rfl)
  simp [sv_FQk, sv_FQ, sv_evs, sv_ev, sv_evT, sv_nth, sv_adq, sv_gs] at h1
  clear hf
  have Ka : kf xa = 67 := by omega
  intro f hf
  have hf : f ∈ [(17, [], [(0, [(0, 1)]), (0, [(1, 1)])])] := hf
  simp only [List.mem_cons, List.not_mem_nil, or_false] at hf
  subst hf
  · simp [sv_FQk, sv_FQ, sv_evs, sv_ev, sv_evT, sv_nth, sv_adq, sv_gs, q_Ks_1, q_Q_1]
    refine ⟨⟨ba, Ka⟩, ?_⟩
    rw [sv_Qds_iff]
    intro i j i1 i2 i3
    omega
-- ds_n
def q_l7 : SvM := ([(0, none), (-1180591620717411303424, none), (-1180591620717411303424, none), (-1180591620717411303424, none)], [(17, [], [(0, [(0, 1)]), (0, [(1, 1)])]), (16, [], [(0, [(0, 1)]), (0, []), (0, [(1, 1)]), (0, [(2, 1)]), (0, [(3, 1)])]), (0, [], [(1, [(2, -1), (3, 1)])])], [(0, [], [(1, [(1, -1), (2, -1), (3, 1)])])])
theorem q_l7_ok : ∀ (g : Int → Int → Int) (ln : Int → Int) (kf : Int → Nat) (ρ : List Int), sv_BOk ρ q_l7.1 → (∀ f ∈ q_l7.2.1, sv_FQk q_Ks q_Q g ln kf ρ f) → ∀ f ∈ q_l7.2.2, sv_FQk q_Ks q_Q g ln kf ρ f := by
  intro g ln kf ρ hb hf
  obtain ⟨hl, hb⟩ := hb
  obtain ⟨xa, r0, rfl, l0⟩ := sv_lens hl
  obtain ⟨xn, r1, rfl, l1⟩ := sv_lens l0
  obtain ⟨xl, r2, rfl, l2⟩ := sv_lens l1
  obtain ⟨xu, r3, rfl, l3⟩ := sv_lens l2
  obtain rfl := sv_len0 l3
  clear l0 l1 l2 l3 hl
  have ba : 0 ≤ xa := (hb 0 _ _ rfl rfl).1
  clear hb
  have h0 := hf _ (List.mem_of_getElem? (i := 0) rfl)
  simp [sv_FQk, sv_FQ, sv_evs, sv_ev, sv_evT, sv_nth, sv_adq, sv_gs, q_Ks_1, q_Q_1] at h0
  have h1 := hf _ (List.mem_of_getElem? (i := 1) rfl)
  simp [sv_FQk, sv_FQ, sv_evs, sv_ev, sv_evT, sv_nth, sv_adq, sv_gs, q_Ks_0, q_Q_0] at h1
  have h2 := hf _ (List.mem_of_getElem? (i := 2) rfl)
  simp [sv_FQk, sv_FQ, sv_evs, sv_ev, sv_evT, sv_nth, sv_adq, sv_gs] at h2
  clear hf
  obtain ⟨⟨-, Ka⟩, h0⟩ := h0
  rw [sv_Qds_iff] at h0
  obtain ⟨⟨-, Ka⟩, h1⟩ := h1
  rw [sv_Qlin_iff] at h1
  intro f hf
  have hf : f ∈ [(0, [], [(1, [(1, -1), (2, -1), (3, 1)])])] := hf
  simp only [List.mem_cons, List.not_mem_nil, or_false] at hf
  subst hf
  · simp [sv_FQk, sv_FQ, sv_evs, sv_ev, sv_evT, sv_nth, sv_adq, sv_gs]
    have q := sv_pigeon (l := xl) (xu + 1 - xl).toNat xn (g xa) (fun i i1 i2 => by
      have := h1 i i1 i2
      omega) h0
    omega
-- ni_0
def q_l8 : SvM := ([(0, none), (-1180591620717411303424, none), (-1180591620717411303424, none)], [(1, [67], [(0, [(0, 1)])]), (0, [], [(0, [(1, -1)])])], [(18, [], [(0, [(0, 1)]), (0, [(1, 1)]), (0, [(2, 1)])])])
theorem q_l8_ok : ∀ (g : Int → Int → Int) (ln : Int → Int) (kf : Int → Nat) (ρ : List Int), sv_BOk ρ q_l8.1 → (∀ f ∈ q_l8.2.1, sv_FQk q_Ks q_Q g ln kf ρ f) → ∀ f ∈ q_l8.2.2, sv_FQk q_Ks q_Q g ln kf ρ f := by
  intro g ln kf ρ hb hf
  obtain ⟨hl, hb⟩ := hb
  obtain ⟨xa, r0, rfl, l0⟩ := sv_lens hl
  obtain ⟨xn, r1, rfl, l1⟩ := sv_lens l0
  obtain ⟨xc, r2, rfl, l2⟩ := sv_lens l1
  obtain rfl := sv_len0 l2
  clear l0 l1 l2 hl
  have ba : 0 ≤ xa := (hb 0 _ _ rfl rfl).1
  clear hb
  have h0 := hf _ (List.mem_of_getElem? (i := 0) rfl)
  simp [sv_FQk, sv_FQ, sv_evs, sv_ev, sv_evT, sv_nth, sv_adq, sv_gs] at h0
  have h1 := hf _ (List.mem_of_getElem? (i := 1) rfl)
  simp [sv_FQk, sv_FQ, sv_evs, sv_ev, sv_evT, sv_nth, sv_adq, sv_gs] at h1
  clear hf
  have Ka : kf xa = 67 := by omega
  intro f hf
  have hf : f ∈ [(18, [], [(0, [(0, 1)]), (0, [(1, 1)]), (0, [(2, 1)])])] := hf
  simp only [List.mem_cons, List.not_mem_nil, or_false] at hf
  subst hf
  · simp [sv_FQk, sv_FQ, sv_evs, sv_ev, sv_evT, sv_nth, sv_adq, sv_gs, q_Ks_2, q_Q_2]
    refine ⟨⟨ba, Ka⟩, ?_⟩
    rw [sv_Qni_iff]
    intro i i1 i2
    omega
-- ni_a
def q_l9 : SvM := ([(0, none), (-1180591620717411303424, none), (-1180591620717411303424, none), (-1180591620717411303424, none), (-1180591620717411303424, none)], [(18, [], [(0, [(0, 1)]), (0, [(1, 1)]), (0, [(2, 1)])]), (4, [67, 1], [(0, [(0, 1)]), (0, [(1, 1)]), (0, [(3, 1)])]), (2, [], [(0, [(0, 1)]), (0, [(4, 1)])]), (0, [], [(0, [(1, 1)])]), (0, [], [(-1, [(1, -1), (4, 1)])]), (0, [], [(-1, [(2, 1), (3, -1)])])], [(18, [], [(0, [(0, 1)]), (1, [(1, 1)]), (0, [(2, 1)])])])
theorem q_l9_ok : ∀ (g : Int → Int → Int) (ln : Int → Int) (kf : Int → Nat) (ρ : List Int), sv_BOk ρ q_l9.1 → (∀ f ∈ q_l9.2.1, sv_FQk q_Ks q_Q g ln kf ρ f) → ∀ f ∈ q_l9.2.2, sv_FQk q_Ks q_Q g ln kf ρ f := by
  intro g ln kf ρ hb hf
  obtain ⟨hl, hb⟩ := hb
  obtain ⟨xa, r0, rfl, l0⟩ := sv_lens hl
  obtain ⟨xn, r1, rfl, l1⟩ := sv_lens l0
  obtain ⟨xc, r2, rfl, l2⟩ := sv_lens l1
  obtain ⟨xx, r3, rfl, l3⟩ := sv_lens l2
  obtain ⟨xN, r4, rfl, l4⟩ := sv_lens l3
  obtain rfl := sv_len0 l4
  clear l0 l1 l2 l3 l4 hl
  have ba : 0 ≤ xa := (hb 0 _ _ rfl rfl).1
  clear hb
  have h0 := hf _ (List.mem_of_getElem? (i := 0) rfl)
  simp [sv_FQk, sv_FQ, sv_evs, sv_ev, sv_evT, sv_nth, sv_adq, sv_gs, q_Ks_2, q_Q_2] at h0
  have h1 := hf _ (List.mem_of_getElem? (i := 1) rfl)
  simp [sv_FQk, sv_FQ, sv_evs, sv_ev, sv_evT, sv_nth, sv_adq, sv_gs] at h1
  have h2 := hf _ (List.mem_of_getElem? (i := 2) rfl)
  simp [sv_FQk, sv_FQ, sv_evs, sv_ev, sv_evT, sv_nth, sv_adq, sv_gs] at h2
  have h3 := hf _ (List.mem_of_getElem? (i := 3) rfl)
  simp [sv_FQk, sv_FQ, sv_evs, sv_ev, sv_evT, sv_nth, sv_adq, sv_gs] at h3
  have h4 := hf _ (List.mem_of_getElem? (i := 4) rfl)
  simp [sv_FQk, sv_FQ, sv_evs, sv_ev, sv_evT, sv_nth, sv_adq, sv_gs] at h4
  have h5 := hf _ (List.mem_of_getElem? (i := 5) rfl)
  simp [sv_FQk, sv_FQ, sv_evs, sv_ev, sv_evT, sv_nth, sv_adq, sv_gs] at h5
  clear hf
  obtain ⟨⟨-, Ka⟩, h0⟩ := h0
  rw [sv_Qni_iff] at h0
  replace h1 := h1 ba (by omega) (by have := h2 ba; omega)
  intro f hf
  have hf : f ∈ [(18, [], [(0, [(0, 1)]), (1, [(1, 1)]), (0, [(2, 1)])])] := hf
  simp only [List.mem_cons, List.not_mem_nil, or_false] at hf
  subst hf
  · simp [sv_FQk, sv_FQ, sv_evs, sv_ev, sv_evT, sv_nth, sv_adq, sv_gs, q_Ks_2, q_Q_2]
    refine ⟨⟨ba, Ka⟩, ?_⟩
    rw [sv_Qni_iff]
    intro i i1 i2
    by_cases e : i = xn
    · rw [e, h1]
      omega
    · exact h0 i i1 (by omega)
-- ni_b
def q_l10 : SvM := ([(0, none), (-1180591620717411303424, none), (-1180591620717411303424, none), (-1180591620717411303424, none), (-1180591620717411303424, none)], [(18, [], [(0, [(0, 1)]), (0, [(1, 1)]), (0, [(2, 1)])]), (4, [67, 1], [(0, [(0, 1)]), (0, [(1, 1)]), (0, [(3, 1)])]), (2, [], [(0, [(0, 1)]), (0, [(4, 1)])]), (0, [], [(0, [(1, 1)])]), (0, [], [(-1, [(1, -1), (4, 1)])]), (0, [], [(-1, [(2, -1), (3, 1)])])], [(18, [], [(0, [(0, 1)]), (1, [(1, 1)]), (0, [(2, 1)])])])
theorem q_l10_ok : ∀ (g : Int → Int → Int) (ln : Int → Int) (kf : Int → Nat) (ρ : List Int), sv_BOk ρ q_l10.1 → (∀ f ∈ q_l10.2.1, sv_FQk q_Ks q_Q g ln kf ρ f) → ∀ f ∈ q_l10.2.2, sv_FQk q_Ks q_Q g ln kf ρ f := by
  intro g ln kf ρ hb hf
  obtain ⟨hl, hb⟩ := hb
  obtain ⟨xa, r0, rfl, l0⟩ := sv_lens hl
  obtain ⟨xn, r1, rfl, l1⟩ := sv_lens l0
  obtain ⟨xc, r2, rfl, l2⟩ := sv_lens l1
  obtain ⟨xx, r3, rfl, l3⟩ := sv_lens l2
  obtain ⟨xN, r4, rfl, l4⟩ := sv_lens l3
  obtain rfl := sv_len0 l4
  clear l0 l1 l2 l3 l4 hl
  have ba : 0 ≤ xa := (hb 0 _ _ rfl rfl).1
  clear hb
  have h0 := hf _ (List.mem_of_getElem? (i := 0) rfl)
  simp [sv_FQk, sv_FQ, sv_evs, sv_ev, sv_evT, sv_nth, sv_adq, sv_gs, q_Ks_2, q_Q_2] at h0
  have h1 := hf _ (List.mem_of_getElem? (i := 1) rfl)
  simp [sv_FQk, sv_FQ, sv_evs, sv_ev, sv_evT, sv_nth, sv_adq, sv_gs] at h1
  have h2 := hf _ (List.mem_of_getElem? (i := 2) rfl)
  simp [sv_FQk, sv_FQ, sv_evs, sv_ev, sv_evT, sv_nth, sv_adq, sv_gs] at h2
  have h3 := hf _ (List.mem_of_getElem? (i := 3) rfl)
  simp [sv_FQk, sv_FQ, sv_evs, sv_ev, sv_evT, sv_nth, sv_adq, sv_gs] at h3
  have h4 := hf _ (List.mem_of_getElem? (i := 4) rfl)
  simp [sv_FQk, sv_FQ, sv_evs, sv_ev, sv_evT, sv_nth, sv_adq, sv_gs] at h4
  have h5 := hf _ (List.mem_of_getElem? (i := 5) rfl)
  simp [sv_FQk, sv_FQ, sv_evs, sv_ev, sv_evT, sv_nth, sv_adq, sv_gs] at h5
  clear hf
  obtain ⟨⟨-, Ka⟩, h0⟩ := h0
  rw [sv_Qni_iff] at h0
  replace h1 := h1 ba (by omega) (by have := h2 ba; omega)
  intro f hf
  have hf : f ∈ [(18, [], [(0, [(0, 1)]), (1, [(1, 1)]), (0, [(2, 1)])])] := hf
  simp only [List.mem_cons, List.not_mem_nil, or_false] at hf
  subst hf
  · simp [sv_FQk, sv_FQ, sv_evs, sv_ev, sv_evT, sv_nth, sv_adq, sv_gs, q_Ks_2, q_Q_2]
    refine ⟨⟨ba, Ka⟩, ?_⟩
    rw [sv_Qni_iff]
    intro i i1 i2
    by_cases e : i = xn
    · rw [e, h1]
      omega
    · exact h0 i i1 (by omega)
-- ni_w
def q_l11 : SvM := ([(0, none), (-1180591620717411303424, none), (-1180591620717411303424, none), (-1180591620717411303424, none)], [(18, [], [(0, [(0, 1)]), (0, [(1, 1)]), (0, [(2, 1)])]), (0, [], [(0, [(1, 1), (3, -1)])])], [(18, [], [(0, [(0, 1)]), (0, [(3, 1)]), (0, [(2, 1)])])])
theorem q_l11_ok : ∀ (g : Int → Int → Int) (ln : Int → Int) (kf : Int → Nat) (ρ : List Int), sv_BOk ρ q_l11.1 → (∀ f ∈ q_l11.2.1, sv_FQk q_Ks q_Q g ln kf ρ f) → ∀ f ∈ q_l11.2.2, sv_FQk q_Ks q_Q g ln kf ρ f := by
  intro g ln kf ρ hb hf
  obtain ⟨hl, hb⟩ := hb
  obtain ⟨xa, r0, rfl, l0⟩ := sv_lens hl
  obtain ⟨xn, r1, rfl, l1⟩ := sv_lens l0
  obtain ⟨xc, r2, rfl, l2⟩ := sv_lens l1
  obtain ⟨xm, r3, rfl, l3⟩ := sv_lens l2
  obtain rfl := sv_len0 l3
  clear l0 l1 l2 l3 hl
  have ba : 0 ≤ xa := (hb 0 _ _ rfl rfl).1
  clear hb
  have h0 := hf _ (List.mem_of_getElem? (i := 0) rfl)
  simp [sv_FQk, sv_FQ, sv_evs, sv_ev, sv_evT, sv_nth, sv_adq, sv_gs, q_Ks_2, q_Q_2] at h0
  have h1 := hf _ (List.mem_of_getElem? (i := 1) rfl)
  simp [sv_FQk, sv_FQ, sv_evs, sv_ev, sv_evT, sv_nth, sv_adq, sv_gs] at h1
  clear hf
  obtain ⟨⟨-, Ka⟩, h0⟩ := h0
  rw [sv_Qni_iff] at h0
  intro f hf
  have hf : f ∈ [(18, [], [(0, [(0, 1)]), (0, [(3, 1)]), (0, [(2, 1)])])] := hf
  simp only [List.mem_cons, List.not_mem_nil, or_false] at hf
  subst hf
  · simp [sv_FQk, sv_FQ, sv_evs, sv_ev, sv_evT, sv_nth, sv_adq, sv_gs, q_Ks_2, q_Q_2]
    refine ⟨⟨ba, Ka⟩, ?_⟩
    rw [sv_Qni_iff]
    intro i i1 i2
    exact h0 i i1 (by omega)
-- nm_el
def q_l12 : SvM := ([(0, none), (0, none), (-1180591620717411303424, none), (-1180591620717411303424, none), (-1180591620717411303424, none), (-1180591620717411303424, none), (-1180591620717411303424, none), (-1180591620717411303424, none), (-1180591620717411303424, none), (-1180591620717411303424, none), (-1180591620717411303424, none)], [(19, [], [(0, [(0, 1)]), (0, [(1, 1)]), (0, [(2, 1)]), (0, [(3, 1)]), (0, [(4, 1)]), (0, [(5, 1)])]), (4, [65, 1], [(0, [(0, 1)]), (0, [(6, 1)]), (0, [(7, 1)])]), (4, [66, 1], [(0, [(1, 1)]), (0, [(6, 1)]), (0, [(8, 1)])]), (2, [], [(0, [(0, 1)]), (0, [(9, 1)])]), (2, [], [(0, [(1, 1)]), (0, [(10, 1)])]), (0, [], [(0, [(2, -1), (6, 1)])]), (0, [], [(-1, [(3, 1), (6, -1)])]), (0, [], [(0, [(6, 1)])]), (0, [], [(-1, [(6, -1), (9, 1)])]), (0, [], [(-1, [(6, -1), (10, 1)])])], [(0, [], [(0, [(4, -1), (7, -1), (8, 1)])]), (0, [], [(0, [(5, 1), (7, 1), (8, -1)])])])
theorem q_l12_ok : ∀ (g : Int → Int → Int) (ln : Int → Int) (kf : Int → Nat) (ρ : List Int), sv_BOk ρ q_l12.1 → (∀ f ∈ q_l12.2.1, sv_FQk q_Ks q_Q g ln kf ρ f) → ∀ f ∈ q_l12.2.2, sv_FQk q_Ks q_Q g ln kf ρ f := by
  intro g ln kf ρ hb hf
  obtain ⟨hl, hb⟩ := hb
  obtain ⟨xa, r0, rfl, l0⟩ := sv_lens hl
  obtain ⟨xb, r1, rfl, l1⟩ := sv_lens l0
  obtain ⟨xlo, r2, rfl, l2⟩ := sv_lens l1
  obtain ⟨xhi, r3, rfl, l3⟩ := sv_lens l2
  obtain ⟨xl, r4, rfl, l4⟩ := sv_lens l3
  obtain ⟨xu, r5, rfl, l5⟩ := sv_lens l4
  obtain ⟨xi, r6, rfl, l6⟩ := sv_lens l5
  obtain ⟨xx, r7, rfl, l7⟩ := sv_lens l6
  obtain ⟨xy, r8, rfl, l8⟩ := sv_lens l7
  obtain ⟨xN, r9, rfl, l9⟩ := sv_lens l8
  obtain ⟨xM, r10, rfl, l10⟩ := sv_lens l9
  obtain rfl := sv_len0 l10
  clear l0 l1 l2 l3 l4 l5 l6 l7 l8 l9 l10 hl
  have ba : 0 ≤ xa := (hb 0 _ _ rfl rfl).1
  have bb : 0 ≤ xb := (hb 1 _ _ rfl rfl).1
  clear hb
  have h0 := hf _ (List.mem_of_getElem? (i := 0) rfl)
  simp [sv_FQk, sv_FQ, sv_evs, sv_ev, sv_evT, sv_nth, sv_adq, sv_gs, q_Ks_3, q_Q_3] at h0
  have h1 := hf _ (List.mem_of_getElem? (i := 1) rfl)
  simp [sv_FQk, sv_FQ, sv_evs, sv_ev, sv_evT, sv_nth, sv_adq, sv_gs] at h1
  have h2 := hf _ (List.mem_of_getElem? (i := 2) rfl)
  simp [sv_FQk, sv_FQ, sv_evs, sv_ev, sv_evT, sv_nth, sv_adq, sv_gs] at h2
  have h3 := hf _ (List.mem_of_getElem? (i := 3) rfl)
  simp [sv_FQk, sv_FQ, sv_evs, sv_ev, sv_evT, sv_nth, sv_adq, sv_gs] at h3
  have h4 := hf _ (List.mem_of_getElem? (i := 4) rfl)
  simp [sv_FQk, sv_FQ, sv_evs, sv_ev, sv_evT, sv_nth, sv_adq, sv_gs] at h4
  have h5 := hf _ (List.mem_of_getElem? (i := 5) rfl)
  simp [sv_FQk, sv_FQ, sv_evs, sv_ev, sv_evT, sv_nth, sv_adq, sv_gs] at h5
  have h6 := hf _ (List.mem_of_getElem? (i := 6) rfl)
  simp [sv_FQk, sv_FQ, sv_evs, sv_ev, sv_evT, sv_nth, sv_adq, sv_gs] at h6
  have h7 := hf _ (List.mem_of_getElem? (i := 7) rfl)
  simp [sv_FQk, sv_FQ, sv_evs, sv_ev, sv_evT, sv_nth, sv_adq, sv_gs] at h7
  have h8 := hf _ (List.mem_of_getElem? (i := 8) rfl)
  simp [sv_FQk, sv_FQ, sv_evs, sv_ev, sv_evT, sv_nth, sv_adq, sv_gs] at h8
  have h9 := hf _ (List.mem_of_getElem? (i := 9) rfl)
  simp [sv_FQk, sv_FQ, sv_evs, sv_ev, sv_evT, sv_nth, sv_adq, sv_gs] at h9
  clear hf
  obtain ⟨⟨⟨-, Ka⟩, ⟨-, Kb⟩⟩, h0⟩ := h0
  rw [sv_Qlin2_iff] at h0
  replace h1 := h1 ba (by omega) (by have := h3 ba; omega)
  replace h2 := h2 bb (by omega) (by have := h4 bb; omega)
  intro f hf
  have hf : f ∈ [(0, [], [(0, [(4, -1), (7, -1), (8, 1)])]), (0, [], [(0, [(5, 1), (7, 1), (8, -1)])])] := hf
  simp only [List.mem_cons, List.not_mem_nil, or_false] at hf
  rcases hf with rfl | rfl
  · simp [sv_FQk, sv_FQ, sv_evs, sv_ev, sv_evT, sv_nth, sv_adq, sv_gs]
    have q := h0 xi (by omega) (by omega)
    rw [h1, h2] at q
    omega
  · simp [sv_FQk, sv_FQ, sv_evs, sv_ev, sv_evT, sv_nth, sv_adq, sv_gs]
    have q := h0 xi (by omega) (by omega)
    rw [h1, h2] at q
    omega
-- nm_0
def q_l13 : SvM := ([(0, none), (0, none), (-1180591620717411303424, none), (-1180591620717411303424, none), (-1180591620717411303424, none), (-1180591620717411303424, none)], [(1, [65], [(0, [(0, 1)])]), (1, [66], [(0, [(1, 1)])]), (0, [], [(0, [(2, 1), (3, -1)])])], [(19, [], [(0, [(0, 1)]), (0, [(1, 1)]), (0, [(2, 1)]), (0, [(3, 1)]), (0, [(4, 1)]), (0, [(5, 1)])])])
theorem q_l13_ok : ∀ (g : Int → Int → Int) (ln : Int → Int) (kf : Int → Nat) (ρ : List Int), sv_BOk ρ q_l13.1 → (∀ f ∈ q_l13.2.1, sv_FQk q_Ks q_Q g ln kf ρ f) → ∀ f ∈ q_l13.2.2, sv_FQk q_Ks q_Q g ln kf ρ f := by
  intro g ln kf ρ hb hf
  obtain ⟨hl, hb⟩ := hb
  obtain ⟨xa, r0, rfl, l0⟩ := sv_lens hl
  obtain ⟨xb, r1, rfl, l1⟩ := sv_lens l0
  obtain ⟨xlo, r2, rfl, l2⟩ := sv_lens l1
  obtain ⟨xhi, r3, rfl, l3⟩ := sv_lens l2
  obtain ⟨xl, r4, rfl, l4⟩ := sv_lens l3
  obtain ⟨xu, r5, rfl, l5⟩ := sv_lens l4
  obtain rfl := sv_len0 l5
  clear l0 l1 l2 l3 l4 l5 hl
  have ba : 0 ≤ xa := (hb 0 _ _ rfl rfl).1
  have bb : 0 ≤ xb := (hb 1 _ _ rfl rfl).1
  clear hb
  have h0 := hf _ (List.mem_of_getElem? (i := 0) rfl)
  simp [sv_FQk, sv_FQ, sv_evs, sv_ev, sv_evT, sv_nth, sv_adq, sv_gs] at h0
  have h1 := hf _ (List.mem_of_getElem? (i := 1) rfl)
  simp [sv_FQk, sv_FQ, sv_evs, sv_ev, sv_evT, sv_nth, sv_adq, sv_gs] at h1
  have h2 := hf _ (List.mem_of_getElem? (i := 2) rfl)
  simp [sv_FQk, sv_FQ, sv_evs, sv_ev, sv_evT, sv_nth, sv_adq, sv_gs] at h2
  clear hf
  have Ka : kf xa = 65 := by omega
  have Kb : kf xb = 66 := by omega
  intro f hf
  have hf : f ∈ [(19, [], [(0, [(0, 1)]), (0, [(1, 1)]), (0, [(2, 1)]), (0, [(3, 1)]), (0, [(4, 1)]), (0, [(5, 1)])])] := hf
  simp only [List.mem_cons, List.not_mem_nil, or_false] at hf
  subst hf
  · simp [sv_FQk, sv_FQ, sv_evs, sv_ev, sv_evT, sv_nth, sv_adq, sv_gs, q_Ks_3, q_Q_3]
    refine ⟨⟨⟨ba, Ka⟩, ⟨bb, Kb⟩⟩, ?_⟩
    rw [sv_Qlin2_iff]
    intro j j1 j2
    omega
-- nm_w
def q_l14 : SvM := ([(0, none), (0, none), (-1180591620717411303424, none), (-1180591620717411303424, none), (-1180591620717411303424, none), (-1180591620717411303424, none), (-1180591620717411303424, none), (-1180591620717411303424, none), (-1180591620717411303424, none), (-1180591620717411303424, none)], [(19, [], [(0, [(0, 1)]), (0, [(1, 1)]), (0, [(2, 1)]), (0, [(3, 1)]), (0, [(4, 1)]), (0, [(5, 1)])]), (0, [], [(0, [(2, -1), (6, 1)])]), (0, [], [(0, [(3, 1), (7, -1)])]), (0, [], [(0, [(4, 1), (8, -1)])]), (0, [], [(0, [(5, -1), (9, 1)])])], [(19, [], [(0, [(0, 1)]), (0, [(1, 1)]), (0, [(6, 1)]), (0, [(7, 1)]), (0, [(8, 1)]), (0, [(9, 1)])])])
theorem q_l14_ok : ∀ (g : Int → Int → Int) (ln : Int → Int) (kf : Int → Nat) (ρ : List Int), sv_BOk ρ q_l14.1 → (∀ f ∈ q_l14.2.1, sv_FQk q_Ks q_Q g ln kf ρ f) → ∀ f ∈ q_l14.2.2, sv_FQk q_Ks q_Q g ln kf ρ f := by
  intro g ln kf ρ hb hf
  obtain ⟨hl, hb⟩ := hb
  obtain ⟨xa, r0, rfl, l0⟩ := sv_lens hl
  obtain ⟨xb, r1, rfl, l1⟩ := sv_lens l0
  obtain ⟨xlo, r2, rfl, l2⟩ := sv_lens l1
  obtain ⟨xhi, r3, rfl, l3⟩ := sv_lens l2
  obtain ⟨xl, r4, rfl, l4⟩ := sv_lens l3
  obtain ⟨xu, r5, rfl, l5⟩ := sv_lens l4
  obtain ⟨xlp, r6, rfl, l6⟩ := sv_lens l5
  obtain ⟨xhp, r7, rfl, l7⟩ := sv_lens l6
  obtain ⟨xkp, r8, rfl, l8⟩ := sv_lens l7
  obtain ⟨xup, r9, rfl, l9⟩ := sv_lens l8
  obtain rfl := sv_len0 l9
  clear l0 l1 l2 l3 l4 l5 l6 l7 l8 l9 hl
  have ba : 0 ≤ xa := (hb 0 _ _ rfl rfl).1
  have bb : 0 ≤ xb := (hb 1 _ _ rfl rfl).1
  clear hb
  have h0 := hf _ (List.mem_of_getElem? (i := 0) rfl)
  simp [sv_FQk, sv_FQ, sv_evs, sv_ev, sv_evT, sv_nth, sv_adq, sv_gs, q_Ks_3, q_Q_3] at h0
  have h1 := hf _ (List.mem_of_getElem? (i := 1) rfl)
  simp [sv_FQk, sv_FQ, sv_evs, sv_ev, sv_evT, sv_nth, sv_adq, sv_gs] at h1
  have h2 := hf _ (List.mem_of_getElem? (i := 2) rfl)
  simp [sv_FQk, sv_FQ, sv_evs, sv_ev, sv_evT, sv_nth, sv_adq, sv_gs] at h2
  have h3 := hf _ (List.mem_of_getElem? (i := 3) rfl)
  simp [sv_FQk, sv_FQ, sv_evs, sv_ev, sv_evT, sv_nth, sv_adq, sv_gs] at h3
  have h4 := hf _ (List.mem_of_getElem? (i := 4) rfl)
  simp [sv_FQk, sv_FQ, sv_evs, sv_ev, sv_evT, sv_nth, sv_adq, sv_gs] at h4
  clear hf
  obtain ⟨⟨⟨-, Ka⟩, ⟨-, Kb⟩⟩, h0⟩ := h0
  rw [sv_Qlin2_iff] at h0
  intro f hf
  have hf : f ∈ [(19, [], [(0, [(0, 1)]), (0, [(1, 1)]), (0, [(6, 1)]), (0, [(7, 1)]), (0, [(8, 1)]), (0, [(9, 1)])])] := hf
  simp only [List.mem_cons, List.not_mem_nil, or_false] at hf
  subst hf
  · simp [sv_FQk, sv_FQ, sv_evs, sv_ev, sv_evT, sv_nth, sv_adq, sv_gs, q_Ks_3, q_Q_3]
    refine ⟨⟨⟨ba, Ka⟩, ⟨bb, Kb⟩⟩, ?_⟩
    rw [sv_Qlin2_iff]
    intro j j1 j2
    have q := h0 j (by omega) (by omega)
    omega
-- wv_el
def q_l15 : SvM := ([(0, none), (-1180591620717411303424, none), (-1180591620717411303424, none), (-1180591620717411303424, none), (-1180591620717411303424, none), (-1180591620717411303424, none), (-1180591620717411303424, none), (-1180591620717411303424, none)], [(20, [], [(0, [(0, 1)]), (0, [(1, 1)]), (0, [(2, 1)]), (0, [(3, 1)]), (0, [(4, 1)])]), (4, [58, 1], [(0, [(0, 1)]), (0, [(5, 1)]), (0, [(6, 1)])]), (2, [], [(0, [(0, 1)]), (0, [(7, 1)])]), (0, [], [(0, [(1, -1), (5, 1)])]), (0, [], [(-1, [(2, 1), (5, -1)])]), (0, [], [(0, [(5, 1)])]), (0, [], [(-1, [(5, -1), (7, 1)])])], [(0, [], [(0, [(3, -1), (5, 1), (6, 1)])]), (0, [], [(0, [(4, 1), (5, -1), (6, -1)])])])
theorem q_l15_ok : ∀ (g : Int → Int → Int) (ln : Int → Int) (kf : Int → Nat) (ρ : List Int), sv_BOk ρ q_l15.1 → (∀ f ∈ q_l15.2.1, sv_FQk q_Ks q_Q g ln kf ρ f) → ∀ f ∈ q_l15.2.2, sv_FQk q_Ks q_Q g ln kf ρ f := by
  intro g ln kf ρ hb hf
  obtain ⟨hl, hb⟩ := hb
  obtain ⟨xa, r0, rfl, l0⟩ := sv_lens hl
  obtain ⟨xlo, r1, rfl, l1⟩ := sv_lens l0
  obtain ⟨xhi, r2, rfl, l2⟩ := sv_lens l1
  obtain ⟨xl, r3, rfl, l3⟩ := sv_lens l2
  obtain ⟨xu, r4, rfl, l4⟩ := sv_lens l3
  obtain ⟨xi, r5, rfl, l5⟩ := sv_lens l4
  obtain ⟨xx, r6, rfl, l6⟩ := sv_lens l5
  obtain ⟨xN, r7, rfl, l7⟩ := sv_lens l6
  obtain rfl := sv_len0 l7
  clear l0 l1 l2 l3 l4 l5 l6 l7 hl
  have ba : 0 ≤ xa := (hb 0 _ _ rfl rfl).1
  clear hb
  have h0 := hf _ (List.mem_of_getElem? (i := 0) rfl)
  simp [sv_FQk, sv_FQ, sv_evs, sv_ev, sv_evT, sv_nth, sv_adq, sv_gs, q_Ks_4, q_Q_4] at h0
  have h1 := hf _ (List.mem_of_getElem? (i := 1) rfl)
  simp [sv_FQk, sv_FQ, sv_evs, sv_ev, sv_evT, sv_nth, sv_adq, sv_gs] at h1
  have h2 := hf _ (List.mem_of_getElem? (i := 2) rfl)
  simp [sv_FQk, sv_FQ, sv_evs, sv_ev, sv_evT, sv_nth, sv_adq, sv_gs] at h2
  have h3 := hf _ (List.mem_of_getElem? (i := 3) rfl)
  simp [sv_FQk, sv_FQ, sv_evs, sv_ev, sv_evT, sv_nth, sv_adq, sv_gs] at h3
  have h4 := hf _ (List.mem_of_getElem? (i := 4) rfl)
  simp [sv_FQk, sv_FQ, sv_evs, sv_ev, sv_evT, sv_nth, sv_adq, sv_gs] at h4
  have h5 := hf _ (List.mem_of_getElem? (i := 5) rfl)
  simp [sv_FQk, sv_FQ, sv_evs, sv_ev, sv_evT, sv_nth, sv_adq, sv_gs] at h5
  have h6 := hf _ (List.mem_of_getElem? (i := 6) rfl)
  simp [sv_FQk, sv_FQ, sv_evs, sv_ev, sv_evT, sv_nth, sv_adq, sv_gs] at h6
  clear hf
  obtain ⟨⟨-, Ka⟩, h0⟩ := h0
  rw [sv_Qlin_iff] at h0
  replace h1 := h1 ba (by omega) (by have := h2 ba; omega)
  intro f hf
  have hf : f ∈ [(0, [], [(0, [(3, -1), (5, 1), (6, 1)])]), (0, [], [(0, [(4, 1), (5, -1), (6, -1)])])] := hf
  simp only [List.mem_cons, List.not_mem_nil, or_false] at hf
  rcases hf with rfl | rfl
  · simp [sv_FQk, sv_FQ, sv_evs, sv_ev, sv_evT, sv_nth, sv_adq, sv_gs]
    have q := h0 xi (by omega) (by omega)
    rw [h1] at q
    omega
  · simp [sv_FQk, sv_FQ, sv_evs, sv_ev, sv_evT, sv_nth, sv_adq, sv_gs]
    have q := h0 xi (by omega) (by omega)
    rw [h1] at q
    omega
-- wv_0
def q_l16 : SvM := ([(0, none), (-1180591620717411303424, none), (-1180591620717411303424, none), (-1180591620717411303424, none), (-1180591620717411303424, none)], [(1, [58], [(0, [(0, 1)])]), (0, [], [(0, [(1, 1), (2, -1)])])], [(20, [], [(0, [(0, 1)]), (0, [(1, 1)]), (0, [(2, 1)]), (0, [(3, 1)]), (0, [(4, 1)])])])
theorem q_l16_ok : ∀ (g : Int → Int → Int) (ln : Int → Int) (kf : Int → Nat) (ρ : List Int), sv_BOk ρ q_l16.1 → (∀ f ∈ q_l16.2.1, sv_FQk q_Ks q_Q g ln kf ρ f) → ∀ f ∈ q_l16.2.2, sv_FQk q_Ks q_Q g ln kf ρ f := by
  intro g ln kf ρ hb hf
  obtain ⟨hl, hb⟩ := hb
  obtain ⟨xa, r0, rfl, l0⟩ := sv_lens hl
  obtain ⟨xlo, r1, rfl, l1⟩ := sv_lens l0
  obtain ⟨xhi, r2, rfl, l2⟩ := sv_lens l1
  obtain ⟨xl, r3, rfl, l3⟩ := sv_lens l2
  obtain ⟨xu, r4, rfl, l4⟩ := sv_lens l3
  obtain rfl := sv_len0 l4
  clear l0 l1 l2 l3 l4 hl
  have ba : 0 ≤ xa := (hb 0 _ _ rfl rfl).1
  clear hb
  have h0 := hf _ (List.mem_of_getElem? (i := 0) rfl)
  simp [sv_FQk, sv_FQ, sv_evs, sv_ev, sv_evT, sv_nth, sv_adq, sv_gs] at h0
  have h1 := hf _ (List.mem_of_getElem? (i := 1) rfl)
  simp [sv_FQk, sv_FQ, sv_evs, sv_ev, sv_evT, sv_nth, sv_adq, sv_gs] at h1
  clear hf
  have Ka : kf xa = 58 := by omega
  intro f hf
  have hf : f ∈ [(20, [], [(0, [(0, 1)]), (0, [(1, 1)]), (0, [(2, 1)]), (0, [(3, 1)]), (0, [(4, 1)])])] := hf
  simp only [List.mem_cons, List.not_mem_nil, or_false] at hf
  subst hf
  · simp [sv_FQk, sv_FQ, sv_evs, sv_ev, sv_evT, sv_nth, sv_adq, sv_gs, q_Ks_4, q_Q_4]
    refine ⟨⟨ba, Ka⟩, ?_⟩
    rw [sv_Qlin_iff]
    intro j j1 j2
    omega
-- wv_w
def q_l17 : SvM := ([(0, none), (-1180591620717411303424, none), (-1180591620717411303424, none), (-1180591620717411303424, none), (-1180591620717411303424, none), (-1180591620717411303424, none), (-1180591620717411303424, none), (-1180591620717411303424, none), (-1180591620717411303424, none)], [(20, [], [(0, [(0, 1)]), (0, [(1, 1)]), (0, [(2, 1)]), (0, [(3, 1)]), (0, [(4, 1)])]), (0, [], [(0, [(1, -1), (5, 1)])]), (0, [], [(0, [(2, 1), (6, -1)])]), (0, [], [(0, [(3, 1), (7, -1)])]), (0, [], [(0, [(4, -1), (8, 1)])])], [(20, [], [(0, [(0, 1)]), (0, [(5, 1)]), (0, [(6, 1)]), (0, [(7, 1)]), (0, [(8, 1)])])])
theorem q_l17_ok : ∀ (g : Int → Int → Int) (ln : Int → Int) (kf : Int → Nat) (ρ : List Int), sv_BOk ρ q_l17.1 → (∀ f ∈ q_l17.2.1, sv_FQk q_Ks q_Q g ln kf ρ f) → ∀ f ∈ q_l17.2.2, sv_FQk q_Ks q_Q g ln kf ρ f := by
  intro g ln kf ρ hb hf
  obtain ⟨hl, hb⟩ := hb
  obtain ⟨xa, r0, rfl, l0⟩ := sv_lens hl
  obtain ⟨xlo, r1, rfl, l1⟩ := sv_lens l0
  obtain ⟨xhi, r2, rfl, l2⟩ := sv_lens l1
  obtain ⟨xl, r3, rfl, l3⟩ := sv_lens l2
  obtain ⟨xu, r4, rfl, l4⟩ := sv_lens l3
  obtain ⟨xlp, r5, rfl, l5⟩ := sv_lens l4
  obtain ⟨xhp, r6, rfl, l6⟩ := sv_lens l5
  obtain ⟨xkp, r7, rfl, l7⟩ := sv_lens l6
  obtain ⟨xup, r8, rfl, l8⟩ := sv_lens l7
  obtain rfl := sv_len0 l8
  clear l0 l1 l2 l3 l4 l5 l6 l7 l8 hl
  have ba : 0 ≤ xa := (hb 0 _ _ rfl rfl).1
  clear hb
  have h0 := hf _ (List.mem_of_getElem? (i := 0) rfl)
  simp [sv_FQk, sv_FQ, sv_evs, sv_ev, sv_evT, sv_nth, sv_adq, sv_gs, q_Ks_4, q_Q_4] at h0
  have h1 := hf _ (List.mem_of_getElem? (i := 1) rfl)
  simp [sv_FQk, sv_FQ, sv_evs, sv_ev, sv_evT, sv_nth, sv_adq, sv_gs] at h1
  have h2 := hf _ (List.mem_of_getElem? (i := 2) rfl)
  simp [sv_FQk, sv_FQ, sv_evs, sv_ev, sv_evT, sv_nth, sv_adq, sv_gs] at h2
  have h3 := hf _ (List.mem_of_getElem? (i := 3) rfl)
  simp [sv_FQk, sv_FQ, sv_evs, sv_ev, sv_evT, sv_nth, sv_adq, sv_gs] at h3
  have h4 := hf _ (List.mem_of_getElem? (i := 4) rfl)
  simp [sv_FQk, sv_FQ, sv_evs, sv_ev, sv_evT, sv_nth, sv_adq, sv_gs] at h4
  clear hf
  obtain ⟨⟨-, Ka⟩, h0⟩ := h0
  rw [sv_Qlin_iff] at h0
  intro f hf
  have hf : f ∈ [(20, [], [(0, [(0, 1)]), (0, [(5, 1)]), (0, [(6, 1)]), (0, [(7, 1)]), (0, [(8, 1)])])] := hf
  simp only [List.mem_cons, List.not_mem_nil, or_false] at hf
  subst hf
  · simp [sv_FQk, sv_FQ, sv_evs, sv_ev, sv_evT, sv_nth, sv_adq, sv_gs, q_Ks_4, q_Q_4]
    refine ⟨⟨ba, Ka⟩, ?_⟩
    rw [sv_Qlin_iff]
    intro j j1 j2
    have q := h0 j (by omega) (by omega)
    omega
-- wv_j
def q_l18 : SvM := ([(0, none), (-1180591620717411303424, none), (-1180591620717411303424, none), (-1180591620717411303424, none), (-1180591620717411303424, none), (-1180591620717411303424, none)], [(20, [], [(0, [(0, 1)]), (0, [(1, 1)]), (0, [(2, 1)]), (0, [(4, 1)]), (0, [(5, 1)])]), (20, [], [(0, [(0, 1)]), (0, [(2, 1)]), (0, [(3, 1)]), (0, [(4, 1)]), (0, [(5, 1)])])], [(20, [], [(0, [(0, 1)]), (0, [(1, 1)]), (0, [(3, 1)]), (0, [(4, 1)]), (0, [(5, 1)])])])
theorem q_l18_ok : ∀ (g : Int → Int → Int) (ln : Int → Int) (kf : Int → Nat) (ρ : List Int), sv_BOk ρ q_l18.1 → (∀ f ∈ q_l18.2.1, sv_FQk q_Ks q_Q g ln kf ρ f) → ∀ f ∈ q_l18.2.2, sv_FQk q_Ks q_Q g ln kf ρ f := by
  intro g ln kf ρ hb hf
  obtain ⟨hl, hb⟩ := hb
  obtain ⟨xa, r0, rfl, l0⟩ := sv_lens hl
  obtain ⟨xlo, r1, rfl, l1⟩ := sv_lens l0
  obtain ⟨xmi, r2, rfl, l2⟩ := sv_lens l1
  obtain ⟨xhi, r3, rfl, l3⟩ := sv_lens l2
  obtain ⟨xl, r4, rfl, l4⟩ := sv_lens l3
  obtain ⟨xu, r5, rfl, l5⟩ := sv_lens l4
  obtain rfl := sv_len0 l5
  clear l0 l1 l2 l3 l4 l5 hl
  have ba : 0 ≤ xa := (hb 0 _ _ rfl rfl).1
  clear hb
  have h0 := hf _ (List.mem_of_getElem? (i := 0) rfl)
  simp [sv_FQk, sv_FQ, sv_evs, sv_ev, sv_evT, sv_nth, sv_adq, sv_gs, q_Ks_4, q_Q_4] at h0
  have h1 := hf _ (List.mem_of_getElem? (i := 1) rfl)
  simp [sv_FQk, sv_FQ, sv_evs, sv_ev, sv_evT, sv_nth, sv_adq, sv_gs, q_Ks_4, q_Q_4] at h1
  clear hf
  obtain ⟨⟨-, Ka⟩, h0⟩ := h0
  rw [sv_Qlin_iff] at h0
  obtain ⟨⟨-, Ka⟩, h1⟩ := h1
  rw [sv_Qlin_iff] at h1
  intro f hf
  have hf : f ∈ [(20, [], [(0, [(0, 1)]), (0, [(1, 1)]), (0, [(3, 1)]), (0, [(4, 1)]), (0, [(5, 1)])])] := hf
  simp only [List.mem_cons, List.not_mem_nil, or_false] at hf
  subst hf
  · simp [sv_FQk, sv_FQ, sv_evs, sv_ev, sv_evT, sv_nth, sv_adq, sv_gs, q_Ks_4, q_Q_4]
    refine ⟨⟨ba, Ka⟩, ?_⟩
    rw [sv_Qlin_iff]
    intro j j1 j2
    by_cases e : j < xmi
    · exact h0 j j1 e
    · exact h1 j (by omega) j2
-- wv_app
def q_l19 : SvM := ([(0, none), (-1180591620717411303424, none), (-1180591620717411303424, none), (-1180591620717411303424, none), (-1180591620717411303424, none), (-1180591620717411303424, none), (-1180591620717411303424, none)], [(20, [], [(0, [(0, 1)]), (0, [(1, 1)]), (0, [(2, 1)]), (0, [(3, 1)]), (0, [(4, 1)])]), (4, [58, 1], [(0, [(0, 1)]), (0, [(2, 1)]), (0, [(5, 1)])]), (2, [], [(0, [(0, 1)]), (0, [(6, 1)])]), (0, [], [(0, [(2, 1)])]), (0, [], [(-1, [(2, -1), (6, 1)])]), (0, [], [(0, [(2, 1), (3, -1), (5, 1)])]), (0, [], [(0, [(2, -1), (4, 1), (5, -1)])])], [(20, [], [(0, [(0, 1)]), (0, [(1, 1)]), (1, [(2, 1)]), (0, [(3, 1)]), (0, [(4, 1)])])])
theorem q_l19_ok : ∀ (g : Int → Int → Int) (ln : Int → Int) (kf : Int → Nat) (ρ : List Int), sv_BOk ρ q_l19.1 → (∀ f ∈ q_l19.2.1, sv_FQk q_Ks q_Q g ln kf ρ f) → ∀ f ∈ q_l19.2.2, sv_FQk q_Ks q_Q g ln kf ρ f := by
  intro g ln kf ρ hb hf
  obtain ⟨hl, hb⟩ := hb
  obtain ⟨xa, r0, rfl, l0⟩ := sv_lens hl
  obtain ⟨xlo, r1, rfl, l1⟩ := sv_lens l0
  obtain ⟨xhi, r2, rfl, l2⟩ := sv_lens l1
  obtain ⟨xl, r3, rfl, l3⟩ := sv_lens l2
  obtain ⟨xu, r4, rfl, l4⟩ := sv_lens l3
  obtain ⟨xx, r5, rfl, l5⟩ := sv_lens l4
  obtain ⟨xN, r6, rfl, l6⟩ := sv_lens l5
  obtain rfl := sv_len0 l6
  clear l0 l1 l2 l3 l4 l5 l6 hl
  have ba : 0 ≤ xa := (hb 0 _ _ rfl rfl).1
  clear hb
  have h0 := hf _ (List.mem_of_getElem? (i := 0) rfl)
  simp [sv_FQk, sv_FQ, sv_evs, sv_ev, sv_evT, sv_nth, sv_adq, sv_gs, q_Ks_4, q_Q_4] at h0
  have h1 := hf _ (List.mem_of_getElem? (i := 1) rfl)
  simp [sv_FQk, sv_FQ, sv_evs, sv_ev, sv_evT, sv_nth, sv_adq, sv_gs] at h1
  have h2 := hf _ (List.mem_of_getElem? (i := 2) rfl)
  simp [sv_FQk, sv_FQ, sv_evs, sv_ev, sv_evT, sv_nth, sv_adq, sv_gs] at h2
  have h3 := hf _ (List.mem_of_getElem? (i := 3) rfl)
  simp [sv_FQk, sv_FQ, sv_evs, sv_ev, sv_evT, sv_nth, sv_adq, sv_gs] at h3
  have h4 := hf _ (List.mem_of_getElem? (i := 4) rfl)
  simp [sv_FQk, sv_FQ, sv_evs, sv_ev, sv_evT, sv_nth, sv_adq, sv_gs] at h4
  have h5 := hf _ (List.mem_of_getElem? (i := 5) rfl)
  simp [sv_FQk, sv_FQ, sv_evs, sv_ev, sv_evT, sv_nth, sv_adq, sv_gs] at h5
  have h6 := hf _ (List.mem_of_getElem? (i := 6) rfl)
  simp [sv_FQk, sv_FQ, sv_evs, sv_ev, sv_evT, sv_nth, sv_adq, sv_gs] at h6
  clear hf
  obtain ⟨⟨-, Ka⟩, h0⟩ := h0
  rw [sv_Qlin_iff] at h0
  replace h1 := h1 ba (by omega) (by have := h2 ba; omega)
  intro f hf
  have hf : f ∈ [(20, [], [(0, [(0, 1)]), (0, [(1, 1)]), (1, [(2, 1)]), (0, [(3, 1)]), (0, [(4, 1)])])] := hf
  simp only [List.mem_cons, List.not_mem_nil, or_false] at hf
  subst hf
  · simp [sv_FQk, sv_FQ, sv_evs, sv_ev, sv_evT, sv_nth, sv_adq, sv_gs, q_Ks_4, q_Q_4]
    refine ⟨⟨ba, Ka⟩, ?_⟩
    rw [sv_Qlin_iff]
    intro j j1 j2
    by_cases e : j = xhi
    · subst e
      rw [h1]
      omega
    · exact h0 j j1 (by omega)
-- wv_aw
def q_l20 : SvM := ([(0, none), (-1180591620717411303424, none), (-1180591620717411303424, none), (-1180591620717411303424, none), (-1180591620717411303424, none), (-1180591620717411303424, none), (-1180591620717411303424, none), (-1180591620717411303424, none)], [(20, [], [(0, [(0, 1)]), (0, [(1, 1)]), (0, [(2, 1)]), (0, [(3, 1)]), (0, [(4, 1)])]), (4, [58, 1], [(0, [(0, 1)]), (0, [(2, 1)]), (0, [(5, 1)])]), (2, [], [(0, [(0, 1)]), (0, [(6, 1)])]), (0, [], [(0, [(2, 1)])]), (0, [], [(-1, [(2, -1), (6, 1)])]), (0, [], [(0, [(4, -1), (7, 1)])]), (0, [], [(0, [(2, 1), (3, -1), (5, 1)])]), (0, [], [(0, [(2, -1), (5, -1), (7, 1)])])], [(20, [], [(0, [(0, 1)]), (0, [(1, 1)]), (1, [(2, 1)]), (0, [(3, 1)]), (0, [(7, 1)])])])
theorem q_l20_ok : ∀ (g : Int → Int → Int) (ln : Int → Int) (kf : Int → Nat) (ρ : List Int), sv_BOk ρ q_l20.1 → (∀ f ∈ q_l20.2.1, sv_FQk q_Ks q_Q g ln kf ρ f) → ∀ f ∈ q_l20.2.2, sv_FQk q_Ks q_Q g ln kf ρ f := by
  intro g ln kf ρ hb hf
  obtain ⟨hl, hb⟩ := hb
  obtain ⟨xa, r0, rfl, l0⟩ := sv_lens hl
  obtain ⟨xlo, r1, rfl, l1⟩ := sv_lens l0
  obtain ⟨xhi, r2, rfl, l2⟩ := sv_lens l1
  obtain ⟨xl, r3, rfl, l3⟩ := sv_lens l2
  obtain ⟨xu, r4, rfl, l4⟩ := sv_lens l3
  obtain ⟨xx, r5, rfl, l5⟩ := sv_lens l4
  obtain ⟨xN, r6, rfl, l6⟩ := sv_lens l5
  obtain ⟨xup, r7, rfl, l7⟩ := sv_lens l6
  obtain rfl := sv_len0 l7
  clear l0 l1 l2 l3 l4 l5 l6 l7 hl
  have ba : 0 ≤ xa := (hb 0 _ _ rfl rfl).1
  clear hb
  have h0 := hf _ (List.mem_of_getElem? (i := 0) rfl)
  simp [sv_FQk, sv_FQ, sv_evs, sv_ev, sv_evT, sv_nth, sv_adq, sv_gs, q_Ks_4, q_Q_4] at h0
  have h1 := hf _ (List.mem_of_getElem? (i := 1) rfl)
  simp [sv_FQk, sv_FQ, sv_evs, sv_ev, sv_evT, sv_nth, sv_adq, sv_gs] at h1
  have h2 := hf _ (List.mem_of_getElem? (i := 2) rfl)
  simp [sv_FQk, sv_FQ, sv_evs, sv_ev, sv_evT, sv_nth, sv_adq, sv_gs] at h2
  have h3 := hf _ (List.mem_of_getElem? (i := 3) rfl)
  simp [sv_FQk, sv_FQ, sv_evs, sv_ev, sv_evT, sv_nth, sv_adq, sv_gs] at h3
  have h4 := hf _ (List.mem_of_getElem? (i := 4) rfl)
  simp [sv_FQk, sv_FQ, sv_evs, sv_ev, sv_evT, sv_nth, sv_adq, sv_gs] at h4
  have h5 := hf _ (List.mem_of_getElem? (i := 5) rfl)
  simp [sv_FQk, sv_FQ, sv_evs, sv_ev, sv_evT, sv_nth, sv_adq, sv_gs] at h5
  have h6 := hf _ (List.mem_of_getElem? (i := 6) rfl)
  simp [sv_FQk, sv_FQ, sv_evs, sv_ev, sv_evT, sv_nth, sv_adq, sv_gs] at h6
  have h7 := hf _ (List.mem_of_getElem? (i := 7) rfl)
  simp [sv_FQk, sv_FQ, sv_evs, sv_ev, sv_evT, sv_nth, sv_adq, sv_gs] at h7
  clear hf
  obtain ⟨⟨-, Ka⟩, h0⟩ := h0
  rw [sv_Qlin_iff] at h0
  replace h1 := h1 ba (by omega) (by have := h2 ba; omega)
  intro f hf
  have hf : f ∈ [(20, [], [(0, [(0, 1)]), (0, [(1, 1)]), (1, [(2, 1)]), (0, [(3, 1)]), (0, [(7, 1)])])] := hf
  simp only [List.mem_cons, List.not_mem_nil, or_false] at hf
  subst hf
  · simp [sv_FQk, sv_FQ, sv_evs, sv_ev, sv_evT, sv_nth, sv_adq, sv_gs, q_Ks_4, q_Q_4]
    refine ⟨⟨ba, Ka⟩, ?_⟩
    rw [sv_Qlin_iff]
    intro j j1 j2
    by_cases e : j = xhi
    · subst e
      rw [h1]
      omega
    · have q := h0 j j1 (by omega)
      omega
-- vol_lt
def q_l21 : SvM := ([(0, none), (0, none), (0, none), (0, none), (-1180591620717411303424, none), (-1180591620717411303424, none), (-1180591620717411303424, none), (-1180591620717411303424, none), (-1180591620717411303424, none), (-1180591620717411303424, none), (-1180591620717411303424, none)], [(21, [], [(0, [(0, 1)]), (0, [(1, 1)]), (0, [(2, 1)]), (0, [(3, 1)]), (0, [(4, 1)])]), (0, [], [(0, [(5, 1)])]), (0, [], [(-1, [(4, 1), (5, -1)])]), (4, [42, 1], [(0, [(0, 1)]), (0, [(5, 1)]), (0, [(6, 1)])]), (2, [], [(0, [(0, 1)]), (0, [(7, 1)])]), (0, [], [(-1, [(5, -1), (7, 1)])]), (4, [46, 1], [(0, [(2, 1)]), (0, [(8, 1)]), (0, [(9, 1)])]), (2, [], [(0, [(2, 1)]), (0, [(10, 1)])]), (0, [], [(-1, [(8, -1), (10, 1)])]), (0, [], [(0, [(5, -3), (8, 1)])]), (0, [], [(-1, [(6, 1)])]), (0, [], [(2, [(5, 3), (8, -1)])])], [(0, [], [(-1, [(5, 1), (9, -1)])])])
theorem q_l21_ok : ∀ (g : Int → Int → Int) (ln : Int → Int) (kf : Int → Nat) (ρ : List Int), sv_BOk ρ q_l21.1 → (∀ f ∈ q_l21.2.1, sv_FQk q_Ks q_Q g ln kf ρ f) → ∀ f ∈ q_l21.2.2, sv_FQk q_Ks q_Q g ln kf ρ f := by
  intro g ln kf ρ hb hf
  obtain ⟨hl, hb⟩ := hb
  obtain ⟨xs, r0, rfl, l0⟩ := sv_lens hl
  obtain ⟨xb, r1, rfl, l1⟩ := sv_lens l0
  obtain ⟨xm, r2, rfl, l2⟩ := sv_lens l1
  obtain ⟨xg, r3, rfl, l3⟩ := sv_lens l2
  obtain ⟨xn, r4, rfl, l4⟩ := sv_lens l3
  obtain ⟨xv, r5, rfl, l5⟩ := sv_lens l4
  obtain ⟨xx, r6, rfl, l6⟩ := sv_lens l5
  obtain ⟨xNS, r7, rfl, l7⟩ := sv_lens l6
  obtain ⟨xw, r8, rfl, l8⟩ := sv_lens l7
  obtain ⟨xc, r9, rfl, l9⟩ := sv_lens l8
  obtain ⟨xNM, r10, rfl, l10⟩ := sv_lens l9
  obtain rfl := sv_len0 l10
  clear l0 l1 l2 l3 l4 l5 l6 l7 l8 l9 l10 hl
  have bs : 0 ≤ xs := (hb 0 _ _ rfl rfl).1
  have bb : 0 ≤ xb := (hb 1 _ _ rfl rfl).1
  have bm : 0 ≤ xm := (hb 2 _ _ rfl rfl).1
  have bg : 0 ≤ xg := (hb 3 _ _ rfl rfl).1
  clear hb
  have h0 := hf _ (List.mem_of_getElem? (i := 0) rfl)
  simp [sv_FQk, sv_FQ, sv_evs, sv_ev, sv_evT, sv_nth, sv_adq, sv_gs, q_Ks_5, q_Q_5] at h0
  have h1 := hf _ (List.mem_of_getElem? (i := 1) rfl)
  simp [sv_FQk, sv_FQ, sv_evs, sv_ev, sv_evT, sv_nth, sv_adq, sv_gs] at h1
  have h2 := hf _ (List.mem_of_getElem? (i := 2) rfl)
  simp [sv_FQk, sv_FQ, sv_evs, sv_ev, sv_evT, sv_nth, sv_adq, sv_gs] at h2
  have h3 := hf _ (List.mem_of_getElem? (i := 3) rfl)
  simp [sv_FQk, sv_FQ, sv_evs, sv_ev, sv_evT, sv_nth, sv_adq, sv_gs] at h3
  have h4 := hf _ (List.mem_of_getElem? (i := 4) rfl)
  simp [sv_FQk, sv_FQ, sv_evs, sv_ev, sv_evT, sv_nth, sv_adq, sv_gs] at h4
  have h5 := hf _ (List.mem_of_getElem? (i := 5) rfl)
  simp [sv_FQk, sv_FQ, sv_evs, sv_ev, sv_evT, sv_nth, sv_adq, sv_gs] at h5
  have h6 := hf _ (List.mem_of_getElem? (i := 6) rfl)
  simp [sv_FQk, sv_FQ, sv_evs, sv_ev, sv_evT, sv_nth, sv_adq, sv_gs] at h6
  have h7 := hf _ (List.mem_of_getElem? (i := 7) rfl)
  simp [sv_FQk, sv_FQ, sv_evs, sv_ev, sv_evT, sv_nth, sv_adq, sv_gs] at h7
  have h8 := hf _ (List.mem_of_getElem? (i := 8) rfl)
  simp [sv_FQk, sv_FQ, sv_evs, sv_ev, sv_evT, sv_nth, sv_adq, sv_gs] at h8
  have h9 := hf _ (List.mem_of_getElem? (i := 9) rfl)
  simp [sv_FQk, sv_FQ, sv_evs, sv_ev, sv_evT, sv_nth, sv_adq, sv_gs] at h9
  have h10 := hf _ (List.mem_of_getElem? (i := 10) rfl)
  simp [sv_FQk, sv_FQ, sv_evs, sv_ev, sv_evT, sv_nth, sv_adq, sv_gs] at h10
  have h11 := hf _ (List.mem_of_getElem? (i := 11) rfl)
  simp [sv_FQk, sv_FQ, sv_evs, sv_ev, sv_evT, sv_nth, sv_adq, sv_gs] at h11
  clear hf
  obtain ⟨⟨⟨-, Ks⟩, ⟨-, Kb⟩, ⟨-, Km⟩, ⟨-, Kg⟩⟩, h0⟩ := h0
  rw [sv_Qvol_iff] at h0
  replace h3 := h3 bs (by omega) (by have := h4 bs; omega)
  replace h6 := h6 bm (by omega) (by have := h7 bm; omega)
  intro f hf
  have hf : f ∈ [(0, [], [(-1, [(5, 1), (9, -1)])])] := hf
  simp only [List.mem_cons, List.not_mem_nil, or_false] at hf
  subst hf
  · simp [sv_FQk, sv_FQ, sv_evs, sv_ev, sv_evT, sv_nth, sv_adq, sv_gs]
    have q := h0 xv (by omega) (by omega)
    unfold sv_vr at q
    replace q := q.2.1 (by omega)
    rcases (by omega : xw = 3 * xv ∨ xw = 1 + 3 * xv ∨ xw = 2 + 3 * xv) with e | e | e
    all_goals first | omega | (rw [e] at h6; rw [h6] at q; omega)
-- vol_b
def q_l22 : SvM := ([(0, none), (0, none), (0, none), (0, none), (-1180591620717411303424, none), (-1180591620717411303424, none), (-1180591620717411303424, none), (-1180591620717411303424, none), (-1180591620717411303424, none), (-1180591620717411303424, none), (-1180591620717411303424, none), (-1180591620717411303424, none)], [(21, [], [(0, [(0, 1)]), (0, [(1, 1)]), (0, [(2, 1)]), (0, [(3, 1)]), (0, [(4, 1)])]), (0, [], [(0, [(5, 1)])]), (0, [], [(-1, [(4, 1), (5, -1)])]), (4, [42, 1], [(0, [(0, 1)]), (0, [(5, 1)]), (0, [(6, 1)])]), (2, [], [(0, [(0, 1)]), (0, [(7, 1)])]), (0, [], [(-1, [(5, -1), (7, 1)])]), (4, [45, 1], [(0, [(1, 1)]), (0, [(5, 1)]), (0, [(8, 1)])]), (2, [], [(0, [(1, 1)]), (0, [(9, 1)])]), (0, [], [(-1, [(5, -1), (9, 1)])]), (4, [44, 1], [(0, [(3, 1)]), (0, [(5, 1)]), (0, [(10, 1)])]), (2, [], [(0, [(3, 1)]), (0, [(11, 1)])]), (0, [], [(-1, [(5, -1), (11, 1)])]), (0, [], [(0, [(6, -1)])]), (0, [], [(0, [(6, 1)])])], [(0, [], [(128, [(8, -1), (10, -1)])])])
theorem q_l22_ok : ∀ (g : Int → Int → Int) (ln : Int → Int) (kf : Int → Nat) (ρ : List Int), sv_BOk ρ q_l22.1 → (∀ f ∈ q_l22.2.1, sv_FQk q_Ks q_Q g ln kf ρ f) → ∀ f ∈ q_l22.2.2, sv_FQk q_Ks q_Q g ln kf ρ f := by
  intro g ln kf ρ hb hf
  obtain ⟨hl, hb⟩ := hb
  obtain ⟨xs, r0, rfl, l0⟩ := sv_lens hl
  obtain ⟨xb, r1, rfl, l1⟩ := sv_lens l0
  obtain ⟨xm, r2, rfl, l2⟩ := sv_lens l1
  obtain ⟨xg, r3, rfl, l3⟩ := sv_lens l2
  obtain ⟨xn, r4, rfl, l4⟩ := sv_lens l3
  obtain ⟨xv, r5, rfl, l5⟩ := sv_lens l4
  obtain ⟨xx, r6, rfl, l6⟩ := sv_lens l5
  obtain ⟨xNS, r7, rfl, l7⟩ := sv_lens l6
  obtain ⟨xy, r8, rfl, l8⟩ := sv_lens l7
  obtain ⟨xNB, r9, rfl, l9⟩ := sv_lens l8
  obtain ⟨xz, r10, rfl, l10⟩ := sv_lens l9
  obtain ⟨xNG, r11, rfl, l11⟩ := sv_lens l10
  obtain rfl := sv_len0 l11
  clear l0 l1 l2 l3 l4 l5 l6 l7 l8 l9 l10 l11 hl
  have bs : 0 ≤ xs := (hb 0 _ _ rfl rfl).1
  have bb : 0 ≤ xb := (hb 1 _ _ rfl rfl).1
  have bm : 0 ≤ xm := (hb 2 _ _ rfl rfl).1
  have bg : 0 ≤ xg := (hb 3 _ _ rfl rfl).1
  clear hb
  have h0 := hf _ (List.mem_of_getElem? (i := 0) rfl)
  simp [sv_FQk, sv_FQ, sv_evs, sv_ev, sv_evT, sv_nth, sv_adq, sv_gs, q_Ks_5, q_Q_5] at h0
  have h1 := hf _ (List.mem_of_getElem? (i := 1) rfl)
  simp [sv_FQk, sv_FQ, sv_evs, sv_ev, sv_evT, sv_nth, sv_adq, sv_gs] at h1
  have h2 := hf _ (List.mem_of_getElem? (i := 2) rfl)
  simp [sv_FQk, sv_FQ, sv_evs, sv_ev, sv_evT, sv_nth, sv_adq, sv_gs] at h2
  have h3 := hf _ (List.mem_of_getElem? (i := 3) rfl)
  simp [sv_FQk, sv_FQ, sv_evs, sv_ev, sv_evT, sv_nth, sv_adq, sv_gs] at h3
  have h4 := hf _ (List.mem_of_getElem? (i := 4) rfl)
  simp [sv_FQk, sv_FQ, sv_evs, sv_ev, sv_evT, sv_nth, sv_adq, sv_gs] at h4
  have h5 := hf _ (List.mem_of_getElem? (i := 5) rfl)
  simp [sv_FQk, sv_FQ, sv_evs, sv_ev, sv_evT, sv_nth, sv_adq, sv_gs] at h5
  have h6 := hf _ (List.mem_of_getElem? (i := 6) rfl)
  simp [sv_FQk, sv_FQ, sv_evs, sv_ev, sv_evT, sv_nth, sv_adq, sv_gs] at h6
  have h7 := hf _ (List.mem_of_getElem? (i := 7) rfl)
  simp [sv_FQk, sv_FQ, sv_evs, sv_ev, sv_evT, sv_nth, sv_adq, sv_gs] at h7
  have h8 := hf _ (List.mem_of_getElem? (i := 8) rfl)
  simp [sv_FQk, sv_FQ, sv_evs, sv_ev, sv_evT, sv_nth, sv_adq, sv_gs] at h8
  have h9 := hf _ (List.mem_of_getElem? (i := 9) rfl)
  simp [sv_FQk, sv_FQ, sv_evs, sv_ev, sv_evT, sv_nth, sv_adq, sv_gs] at h9
  have h10 := hf _ (List.mem_of_getElem? (i := 10) rfl)
  simp [sv_FQk, sv_FQ, sv_evs, sv_ev, sv_evT, sv_nth, sv_adq, sv_gs] at h10
  have h11 := hf _ (List.mem_of_getElem? (i := 11) rfl)
  simp [sv_FQk, sv_FQ, sv_evs, sv_ev, sv_evT, sv_nth, sv_adq, sv_gs] at h11
  have h12 := hf _ (List.mem_of_getElem? (i := 12) rfl)
  simp [sv_FQk, sv_FQ, sv_evs, sv_ev, sv_evT, sv_nth, sv_adq, sv_gs] at h12
  have h13 := hf _ (List.mem_of_getElem? (i := 13) rfl)
  simp [sv_FQk, sv_FQ, sv_evs, sv_ev, sv_evT, sv_nth, sv_adq, sv_gs] at h13
  clear hf
  obtain ⟨⟨⟨-, Ks⟩, ⟨-, Kb⟩, ⟨-, Km⟩, ⟨-, Kg⟩⟩, h0⟩ := h0
  rw [sv_Qvol_iff] at h0
  replace h3 := h3 bs (by omega) (by have := h4 bs; omega)
  replace h6 := h6 bb (by omega) (by have := h7 bb; omega)
  replace h9 := h9 bg (by omega) (by have := h10 bg; omega)
  intro f hf
  have hf : f ∈ [(0, [], [(128, [(8, -1), (10, -1)])])] := hf
  simp only [List.mem_cons, List.not_mem_nil, or_false] at hf
  subst hf
  · simp [sv_FQk, sv_FQ, sv_evs, sv_ev, sv_evT, sv_nth, sv_adq, sv_gs]
    have q := h0 xv (by omega) (by omega)
    unfold sv_vr at q
    replace q := q.1 (by omega)
    omega
-- vol_12
def q_l23 : SvM := ([(0, none), (0, none), (0, none), (0, none), (-1180591620717411303424, none), (-1180591620717411303424, none), (-1180591620717411303424, none), (-1180591620717411303424, none), (-1180591620717411303424, none), (-1180591620717411303424, none), (-1180591620717411303424, none)], [(21, [], [(0, [(0, 1)]), (0, [(1, 1)]), (0, [(2, 1)]), (0, [(3, 1)]), (0, [(4, 1)])]), (0, [], [(0, [(5, 1)])]), (0, [], [(-1, [(4, 1), (5, -1)])]), (4, [42, 1], [(0, [(0, 1)]), (0, [(5, 1)]), (0, [(6, 1)])]), (2, [], [(0, [(0, 1)]), (0, [(7, 1)])]), (0, [], [(-1, [(5, -1), (7, 1)])]), (4, [46, 1], [(0, [(2, 1)]), (0, [(8, 1)]), (0, [(9, 1)])]), (2, [], [(0, [(2, 1)]), (0, [(10, 1)])]), (0, [], [(-1, [(8, -1), (10, 1)])]), (0, [], [(0, [(5, -3), (8, 1)])]), (0, [], [(-1, [(6, 1)])]), (0, [], [(2, [(6, -1)])]), (0, [], [(1, [(5, 3), (8, -1)])])], [(0, [], [(0, [(9, 1)])])])
theorem q_l23_ok : ∀ (g : Int → Int → Int) (ln : Int → Int) (kf : Int → Nat) (ρ : List Int), sv_BOk ρ q_l23.1 → (∀ f ∈ q_l23.2.1, sv_FQk q_Ks q_Q g ln kf ρ f) → ∀ f ∈ q_l23.2.2, sv_FQk q_Ks q_Q g ln kf ρ f := by
  intro g ln kf ρ hb hf
  obtain ⟨hl, hb⟩ := hb
  obtain ⟨xs, r0, rfl, l0⟩ := sv_lens hl
  obtain ⟨xb, r1, rfl, l1⟩ := sv_lens l0
  obtain ⟨xm, r2, rfl, l2⟩ := sv_lens l1
  obtain ⟨xg, r3, rfl, l3⟩ := sv_lens l2
  obtain ⟨xn, r4, rfl, l4⟩ := sv_lens l3
  obtain ⟨xv, r5, rfl, l5⟩ := sv_lens l4
  obtain ⟨xx, r6, rfl, l6⟩ := sv_lens l5
  obtain ⟨xNS, r7, rfl, l7⟩ := sv_lens l6
  obtain ⟨xw, r8, rfl, l8⟩ := sv_lens l7
  obtain ⟨xc, r9, rfl, l9⟩ := sv_lens l8
  obtain ⟨xNM, r10, rfl, l10⟩ := sv_lens l9
  obtain rfl := sv_len0 l10
  clear l0 l1 l2 l3 l4 l5 l6 l7 l8 l9 l10 hl
  have bs : 0 ≤ xs := (hb 0 _ _ rfl rfl).1
  have bb : 0 ≤ xb := (hb 1 _ _ rfl rfl).1
  have bm : 0 ≤ xm := (hb 2 _ _ rfl rfl).1
  have bg : 0 ≤ xg := (hb 3 _ _ rfl rfl).1
  clear hb
  have h0 := hf _ (List.mem_of_getElem? (i := 0) rfl)
  simp [sv_FQk, sv_FQ, sv_evs, sv_ev, sv_evT, sv_nth, sv_adq, sv_gs, q_Ks_5, q_Q_5] at h0
  have h1 := hf _ (List.mem_of_getElem? (i := 1) rfl)
  simp [sv_FQk, sv_FQ, sv_evs, sv_ev, sv_evT, sv_nth, sv_adq, sv_gs] at h1
  have h2 := hf _ (List.mem_of_getElem? (i := 2) rfl)
  simp [sv_FQk, sv_FQ, sv_evs, sv_ev, sv_evT, sv_nth, sv_adq, sv_gs] at h2
  have h3 := hf _ (List.mem_of_getElem? (i := 3) rfl)
  simp [sv_FQk, sv_FQ, sv_evs, sv_ev, sv_evT, sv_nth, sv_adq, sv_gs] at h3
  have h4 := hf _ (List.mem_of_getElem? (i := 4) rfl)
  simp [sv_FQk, sv_FQ, sv_evs, sv_ev, sv_evT, sv_nth, sv_adq, sv_gs] at h4
  have h5 := hf _ (List.mem_of_getElem? (i := 5) rfl)
  simp [sv_FQk, sv_FQ, sv_evs, sv_ev, sv_evT, sv_nth, sv_adq, sv_gs] at h5
  have h6 := hf _ (List.mem_of_getElem? (i := 6) rfl)
  simp [sv_FQk, sv_FQ, sv_evs, sv_ev, sv_evT, sv_nth, sv_adq, sv_gs] at h6
  have h7 := hf _ (List.mem_of_getElem? (i := 7) rfl)
  simp [sv_FQk, sv_FQ, sv_evs, sv_ev, sv_evT, sv_nth, sv_adq, sv_gs] at h7
  have h8 := hf _ (List.mem_of_getElem? (i := 8) rfl)
  simp [sv_FQk, sv_FQ, sv_evs, sv_ev, sv_evT, sv_nth, sv_adq, sv_gs] at h8
  have h9 := hf _ (List.mem_of_getElem? (i := 9) rfl)
  simp [sv_FQk, sv_FQ, sv_evs, sv_ev, sv_evT, sv_nth, sv_adq, sv_gs] at h9
  have h10 := hf _ (List.mem_of_getElem? (i := 10) rfl)
  simp [sv_FQk, sv_FQ, sv_evs, sv_ev, sv_evT, sv_nth, sv_adq, sv_gs] at h10
  have h11 := hf _ (List.mem_of_getElem? (i := 11) rfl)
  simp [sv_FQk, sv_FQ, sv_evs, sv_ev, sv_evT, sv_nth, sv_adq, sv_gs] at h11
  have h12 := hf _ (List.mem_of_getElem? (i := 12) rfl)
  simp [sv_FQk, sv_FQ, sv_evs, sv_ev, sv_evT, sv_nth, sv_adq, sv_gs] at h12
  clear hf
  obtain ⟨⟨⟨-, Ks⟩, ⟨-, Kb⟩, ⟨-, Km⟩, ⟨-, Kg⟩⟩, h0⟩ := h0
  rw [sv_Qvol_iff] at h0
  replace h3 := h3 bs (by omega) (by have := h4 bs; omega)
  replace h6 := h6 bm (by omega) (by have := h7 bm; omega)
  intro f hf
  have hf : f ∈ [(0, [], [(0, [(9, 1)])])] := hf
  simp only [List.mem_cons, List.not_mem_nil, or_false] at hf
  subst hf
  · simp [sv_FQk, sv_FQ, sv_evs, sv_ev, sv_evT, sv_nth, sv_adq, sv_gs]
    have q := h0 xv (by omega) (by omega)
    unfold sv_vr at q
    rcases (by omega : xw = 3 * xv ∨ xw = 1 + 3 * xv ∨ xw = 2 + 3 * xv) with e | e | e
    all_goals first | omega | (rw [e] at h6; rw [h6] at q; omega)
-- vol_1
def q_l24 : SvM := ([(0, none), (0, none), (0, none), (0, none), (-1180591620717411303424, none), (-1180591620717411303424, none), (-1180591620717411303424, none), (-1180591620717411303424, none), (-1180591620717411303424, none), (-1180591620717411303424, none), (-1180591620717411303424, none), (-1180591620717411303424, none), (-1180591620717411303424, none), (-1180591620717411303424, none), (-1180591620717411303424, none), (-1180591620717411303424, none), (-1180591620717411303424, none)], [(21, [], [(0, [(0, 1)]), (0, [(1, 1)]), (0, [(2, 1)]), (0, [(3, 1)]), (0, [(4, 1)])]), (0, [], [(0, [(5, 1)])]), (0, [], [(-1, [(4, 1), (5, -1)])]), (4, [42, 1], [(0, [(0, 1)]), (0, [(5, 1)]), (0, [(6, 1)])]), (2, [], [(0, [(0, 1)]), (0, [(7, 1)])]), (0, [], [(-1, [(5, -1), (7, 1)])]), (4, [45, 1], [(0, [(1, 1)]), (0, [(5, 1)]), (0, [(8, 1)])]), (2, [], [(0, [(1, 1)]), (0, [(9, 1)])]), (0, [], [(-1, [(5, -1), (9, 1)])]), (0, [], [(-1, [(6, 1)])]), (0, [], [(1, [(6, -1)])]), (4, [46, 1], [(0, [(2, 1)]), (0, [(5, 3)]), (0, [(10, 1)])]), (4, [46, 1], [(0, [(2, 1)]), (1, [(5, 3)]), (0, [(11, 1)])]), (4, [46, 1], [(0, [(2, 1)]), (2, [(5, 3)]), (0, [(12, 1)])]), (2, [], [(0, [(2, 1)]), (0, [(13, 1)])]), (0, [], [(-3, [(5, -3), (13, 1)])]), (4, [45, 1], [(0, [(1, 1)]), (0, [(10, 1)]), (0, [(14, 1)])]), (4, [45, 1], [(0, [(1, 1)]), (0, [(11, 1)]), (0, [(15, 1)])]), (4, [45, 1], [(0, [(1, 1)]), (0, [(12, 1)]), (0, [(16, 1)])]), (0, [], [(0, [(10, 1)])]), (0, [], [(0, [(11, 1)])]), (0, [], [(0, [(12, 1)])]), (0, [], [(-1, [(9, 1), (10, -1)])]), (0, [], [(-1, [(9, 1), (11, -1)])]), (0, [], [(-1, [(9, 1), (12, -1)])])], [(0, [], [(0, [(8, -1), (14, 1), (15, 1), (16, 1)])])])
theorem q_l24_ok : ∀ (g : Int → Int → Int) (ln : Int → Int) (kf : Int → Nat) (ρ : List Int), sv_BOk ρ q_l24.1 → (∀ f ∈ q_l24.2.1, sv_FQk q_Ks q_Q g ln kf ρ f) → ∀ f ∈ q_l24.2.2, sv_FQk q_Ks q_Q g ln kf ρ f := by
  intro g ln kf ρ hb hf
  obtain ⟨hl, hb⟩ := hb
  obtain ⟨xs, r0, rfl, l0⟩ := sv_lens hl
  obtain ⟨xb, r1, rfl, l1⟩ := sv_lens l0
  obtain ⟨xm, r2, rfl, l2⟩ := sv_lens l1
  obtain ⟨xg, r3, rfl, l3⟩ := sv_lens l2
  obtain ⟨xn, r4, rfl, l4⟩ := sv_lens l3
  obtain ⟨xv, r5, rfl, l5⟩ := sv_lens l4
  obtain ⟨xx, r6, rfl, l6⟩ := sv_lens l5
  obtain ⟨xNS, r7, rfl, l7⟩ := sv_lens l6
  obtain ⟨xy, r8, rfl, l8⟩ := sv_lens l7
  obtain ⟨xNB, r9, rfl, l9⟩ := sv_lens l8
  obtain ⟨xc, r10, rfl, l10⟩ := sv_lens l9
  obtain ⟨xd, r11, rfl, l11⟩ := sv_lens l10
  obtain ⟨xe, r12, rfl, l12⟩ := sv_lens l11
  obtain ⟨xNM, r13, rfl, l13⟩ := sv_lens l12
  obtain ⟨xcb, r14, rfl, l14⟩ := sv_lens l13
  obtain ⟨xdb, r15, rfl, l15⟩ := sv_lens l14
  obtain ⟨xeb, r16, rfl, l16⟩ := sv_lens l15
  obtain rfl := sv_len0 l16
  clear l0 l1 l2 l3 l4 l5 l6 l7 l8 l9 l10 l11 l12 l13 l14 l15 l16 hl
  have bs : 0 ≤ xs := (hb 0 _ _ rfl rfl).1
  have bb : 0 ≤ xb := (hb 1 _ _ rfl rfl).1
  have bm : 0 ≤ xm := (hb 2 _ _ rfl rfl).1
  have bg : 0 ≤ xg := (hb 3 _ _ rfl rfl).1
  clear hb
  have h0 := hf _ (List.mem_of_getElem? (i := 0) rfl)
  simp [sv_FQk, sv_FQ, sv_evs, sv_ev, sv_evT, sv_nth, sv_adq, sv_gs, q_Ks_5, q_Q_5] at h0
  have h1 := hf _ (List.mem_of_getElem? (i := 1) rfl)
  simp [sv_FQk, sv_FQ, sv_evs, sv_ev, sv_evT, sv_nth, sv_adq, sv_gs] at h1
  have h2 := hf _ (List.mem_of_getElem? (i := 2) rfl)
  simp [sv_FQk, sv_FQ, sv_evs, sv_ev, sv_evT, sv_nth, sv_adq, sv_gs] at h2
  have h3 := hf _ (List.mem_of_getElem? (i := 3) rfl)
  simp [sv_FQk, sv_FQ, sv_evs, sv_ev, sv_evT, sv_nth, sv_adq, sv_gs] at h3
  have h4 := hf _ (List.mem_of_getElem? (i := 4) rfl)
  simp [sv_FQk, sv_FQ, sv_evs, sv_ev, sv_evT, sv_nth, sv_adq, sv_gs] at h4
  have h5 := hf _ (List.mem_of_getElem? (i := 5) rfl)
  simp [sv_FQk, sv_FQ, sv_evs, sv_ev, sv_evT, sv_nth, sv_adq, sv_gs] at h5
  have h6 := hf _ (List.mem_of_getElem? (i := 6) rfl)
  simp [sv_FQk, sv_FQ, sv_evs, sv_ev, sv_evT, sv_nth, sv_adq, sv_gs] at h6
  have h7 := hf _ (List.mem_of_getElem? (i := 7) rfl)
  simp [sv_FQk, sv_FQ, sv_evs, sv_ev, sv_evT, sv_nth, sv_adq, sv_gs] at h7
  have h8 := hf _ (List.mem_of_getElem? (i := 8) rfl)
  simp [sv_FQk, sv_FQ, sv_evs, sv_ev, sv_evT, sv_nth, sv_adq, sv_gs] at h8
  have h9 := hf _ (List.mem_of_getElem? (i := 9) rfl)
  simp [sv_FQk, sv_FQ, sv_evs, sv_ev, sv_evT, sv_nth, sv_adq, sv_gs] at h9
  have h10 := hf _ (List.mem_of_getElem? (i := 10) rfl)
  simp [sv_FQk, sv_FQ, sv_evs, sv_ev, sv_evT, sv_nth, sv_adq, sv_gs] at h10
  have h11 := hf _ (List.mem_of_getElem? (i := 11) rfl)
  simp [sv_FQk, sv_FQ, sv_evs, sv_ev, sv_evT, sv_nth, sv_adq, sv_gs] at h11
  have h12 := hf _ (List.mem_of_getElem? (i := 12) rfl)
  simp [sv_FQk, sv_FQ, sv_evs, sv_ev, sv_evT, sv_nth, sv_adq, sv_gs] at h12
  have h13 := hf _ (List.mem_of_getElem? (i := 13) rfl)
  simp [sv_FQk, sv_FQ, sv_evs, sv_ev, sv_evT, sv_nth, sv_adq, sv_gs] at h13
  have h14 := hf _ (List.mem_of_getElem? (i := 14) rfl)
  simp [sv_FQk, sv_FQ, sv_evs, sv_ev, sv_evT, sv_nth, sv_adq, sv_gs] at h14
  have h15 := hf _ (List.mem_of_getElem? (i := 15) rfl)
  simp [sv_FQk, sv_FQ, sv_evs, sv_ev, sv_evT, sv_nth, sv_adq, sv_gs] at h15
  have h16 := hf _ (List.mem_of_getElem? (i := 16) rfl)
  simp [sv_FQk, sv_FQ, sv_evs, sv_ev, sv_evT, sv_nth, sv_adq, sv_gs] at h16
  have h17 := hf _ (List.mem_of_getElem? (i := 17) rfl)
  simp [sv_FQk, sv_FQ, sv_evs, sv_ev, sv_evT, sv_nth, sv_adq, sv_gs] at h17
  have h18 := hf _ (List.mem_of_getElem? (i := 18) rfl)
  simp [sv_FQk, sv_FQ, sv_evs, sv_ev, sv_evT, sv_nth, sv_adq, sv_gs] at h18
  have h19 := hf _ (List.mem_of_getElem? (i := 19) rfl)
  simp [sv_FQk, sv_FQ, sv_evs, sv_ev, sv_evT, sv_nth, sv_adq, sv_gs] at h19
  have h20 := hf _ (List.mem_of_getElem? (i := 20) rfl)
  simp [sv_FQk, sv_FQ, sv_evs, sv_ev, sv_evT, sv_nth, sv_adq, sv_gs] at h20
  have h21 := hf _ (List.mem_of_getElem? (i := 21) rfl)
  simp [sv_FQk, sv_FQ, sv_evs, sv_ev, sv_evT, sv_nth, sv_adq, sv_gs] at h21
  have h22 := hf _ (List.mem_of_getElem? (i := 22) rfl)
  simp [sv_FQk, sv_FQ, sv_evs, sv_ev, sv_evT, sv_nth, sv_adq, sv_gs] at h22
  have h23 := hf _ (List.mem_of_getElem? (i := 23) rfl)
  simp [sv_FQk, sv_FQ, sv_evs, sv_ev, sv_evT, sv_nth, sv_adq, sv_gs] at h23
  have h24 := hf _ (List.mem_of_getElem? (i := 24) rfl)
  simp [sv_FQk, sv_FQ, sv_evs, sv_ev, sv_evT, sv_nth, sv_adq, sv_gs] at h24
  clear hf
  obtain ⟨⟨⟨-, Ks⟩, ⟨-, Kb⟩, ⟨-, Km⟩, ⟨-, Kg⟩⟩, h0⟩ := h0
  rw [sv_Qvol_iff] at h0
  replace h3 := h3 bs (by omega) (by have := h4 bs; omega)
  replace h6 := h6 bb (by omega) (by have := h7 bb; omega)
  replace h11 := h11 bm (by omega) (by have := h14 bm; omega)
  replace h12 := h12 bm (by omega) (by have := h14 bm; omega)
  replace h13 := h13 bm (by omega) (by have := h14 bm; omega)
  replace h16 := h16 bb (by omega) (by have := h7 bb; omega)
  replace h17 := h17 bb (by omega) (by have := h7 bb; omega)
  replace h18 := h18 bb (by omega) (by have := h7 bb; omega)
  intro f hf
  have hf : f ∈ [(0, [], [(0, [(8, -1), (14, 1), (15, 1), (16, 1)])])] := hf
  simp only [List.mem_cons, List.not_mem_nil, or_false] at hf
  subst hf
  · simp [sv_FQk, sv_FQ, sv_evs, sv_ev, sv_evT, sv_nth, sv_adq, sv_gs]
    have q := h0 xv (by omega) (by omega)
    unfold sv_vr at q
    replace q := q.2.2.1 (by omega)
    rw [h11, h12, h13] at q
    omega
-- vol_1n
def q_l25 : SvM := ([(0, none), (0, none), (0, none), (0, none), (-1180591620717411303424, none), (-1180591620717411303424, none), (-1180591620717411303424, none), (-1180591620717411303424, none), (-1180591620717411303424, none), (-1180591620717411303424, none), (-1180591620717411303424, none), (-1180591620717411303424, none), (-1180591620717411303424, none), (-1180591620717411303424, none), (-1180591620717411303424, none), (-1180591620717411303424, none)], [(21, [], [(0, [(0, 1)]), (0, [(1, 1)]), (0, [(2, 1)]), (0, [(3, 1)]), (0, [(4, 1)])]), (0, [], [(0, [(5, 1)])]), (0, [], [(-1, [(4, 1), (5, -1)])]), (4, [42, 1], [(0, [(0, 1)]), (0, [(5, 1)]), (0, [(6, 1)])]), (2, [], [(0, [(0, 1)]), (0, [(7, 1)])]), (0, [], [(-1, [(5, -1), (7, 1)])]), (4, [45, 1], [(0, [(1, 1)]), (0, [(5, 1)]), (0, [(8, 1)])]), (2, [], [(0, [(1, 1)]), (0, [(9, 1)])]), (0, [], [(-1, [(5, -1), (9, 1)])]), (0, [], [(-1, [(6, 1)])]), (0, [], [(1, [(6, -1)])]), (4, [46, 1], [(0, [(2, 1)]), (0, [(5, 3)]), (0, [(10, 1)])]), (4, [46, 1], [(0, [(2, 1)]), (1, [(5, 3)]), (0, [(11, 1)])]), (4, [46, 1], [(0, [(2, 1)]), (2, [(5, 3)]), (0, [(12, 1)])]), (2, [], [(0, [(2, 1)]), (0, [(13, 1)])]), (0, [], [(-3, [(5, -3), (13, 1)])]), (4, [45, 1], [(0, [(1, 1)]), (0, [(10, 1)]), (0, [(14, 1)])]), (4, [45, 1], [(0, [(1, 1)]), (0, [(11, 1)]), (0, [(15, 1)])]), (0, [], [(0, [(10, 1)])]), (0, [], [(0, [(11, 1)])]), (0, [], [(-1, [(12, -1)])]), (0, [], [(-1, [(9, 1), (10, -1)])]), (0, [], [(-1, [(9, 1), (11, -1)])])], [(0, [], [(0, [(8, -1), (14, 1), (15, 1)])])])
theorem q_l25_ok : ∀ (g : Int → Int → Int) (ln : Int → Int) (kf : Int → Nat) (ρ : List Int), sv_BOk ρ q_l25.1 → (∀ f ∈ q_l25.2.1, sv_FQk q_Ks q_Q g ln kf ρ f) → ∀ f ∈ q_l25.2.2, sv_FQk q_Ks q_Q g ln kf ρ f := by
  intro g ln kf ρ hb hf
  obtain ⟨hl, hb⟩ := hb
  obtain ⟨xs, r0, rfl, l0⟩ := sv_lens hl
  obtain ⟨xb, r1, rfl, l1⟩ := sv_lens l0
  obtain ⟨xm, r2, rfl, l2⟩ := sv_lens l1
  obtain ⟨xg, r3, rfl, l3⟩ := sv_lens l2
  obtain ⟨xn, r4, rfl, l4⟩ := sv_lens l3
  obtain ⟨xv, r5, rfl, l5⟩ := sv_lens l4
  obtain ⟨xx, r6, rfl, l6⟩ := sv_lens l5
  obtain ⟨xNS, r7, rfl, l7⟩ := sv_lens l6
  obtain ⟨xy, r8, rfl, l8⟩ := sv_lens l7
  obtain ⟨xNB, r9, rfl, l9⟩ := sv_lens l8
  obtain ⟨xc, r10, rfl, l10⟩ := sv_lens l9
  obtain ⟨xd, r11, rfl, l11⟩ := sv_lens l10
  obtain ⟨xe, r12, rfl, l12⟩ := sv_lens l11
  obtain ⟨xNM, r13, rfl, l13⟩ := sv_lens l12
  obtain ⟨xcb, r14, rfl, l14⟩ := sv_lens l13
  obtain ⟨xdb, r15, rfl, l15⟩ := sv_lens l14
  obtain rfl := sv_len0 l15
  clear l0 l1 l2 l3 l4 l5 l6 l7 l8 l9 l10 l11 l12 l13 l14 l15 hl
  have bs : 0 ≤ xs := (hb 0 _ _ rfl rfl).1
  have bb : 0 ≤ xb := (hb 1 _ _ rfl rfl).1
  have bm : 0 ≤ xm := (hb 2 _ _ rfl rfl).1
  have bg : 0 ≤ xg := (hb 3 _ _ rfl rfl).1
  clear hb
  have h0 := hf _ (List.mem_of_getElem? (i := 0) rfl)
  simp [sv_FQk, sv_FQ, sv_evs, sv_ev, sv_evT, sv_nth, sv_adq, sv_gs, q_Ks_5, q_Q_5] at h0
  have h1 := hf _ (List.mem_of_getElem? (i := 1) rfl)
  simp [sv_FQk, sv_FQ, sv_evs, sv_ev, sv_evT, sv_nth, sv_adq, sv_gs] at h1
  have h2 := hf _ (List.mem_of_getElem? (i := 2) rfl)
  simp [sv_FQk, sv_FQ, sv_evs, sv_ev, sv_evT, sv_nth, sv_adq, sv_gs] at h2
  have h3 := hf _ (List.mem_of_getElem? (i := 3) rfl)
  simp [sv_FQk, sv_FQ, sv_evs, sv_ev, sv_evT, sv_nth, sv_adq, sv_gs] at h3
  have h4 := hf _ (List.mem_of_getElem? (i := 4) rfl)
  simp [sv_FQk, sv_FQ, sv_evs, sv_ev, sv_evT, sv_nth, sv_adq, sv_gs] at h4
  have h5 := hf _ (List.mem_of_getElem? (i := 5) rfl)
  simp [sv_FQk, sv_FQ, sv_evs, sv_ev, sv_evT, sv_nth, sv_adq, sv_gs] at h5
  have h6 := hf _ (List.mem_of_getElem? (i := 6) rfl)
  simp [sv_FQk, sv_FQ, sv_evs, sv_ev, sv_evT, sv_nth, sv_adq, sv_gs] at h6
  have h7 := hf _ (List.mem_of_getElem? (i := 7) rfl)
  simp [sv_FQk, sv_FQ, sv_evs, sv_ev, sv_evT, sv_nth, sv_adq, sv_gs] at h7
  have h8 := hf _ (List.mem_of_getElem? (i := 8) rfl)
  simp [sv_FQk, sv_FQ, sv_evs, sv_ev, sv_evT, sv_nth, sv_adq, sv_gs] at h8
  have h9 := hf _ (List.mem_of_getElem? (i := 9) rfl)
  simp [sv_FQk, sv_FQ, sv_evs, sv_ev, sv_evT, sv_nth, sv_adq, sv_gs] at h9
  have h10 := hf _ (List.mem_of_getElem? (i := 10) rfl)
  simp [sv_FQk, sv_FQ, sv_evs, sv_ev, sv_evT, sv_nth, sv_adq, sv_gs] at h10
  have h11 := hf _ (List.mem_of_getElem? (i := 11) rfl)
  simp [sv_FQk, sv_FQ, sv_evs, sv_ev, sv_evT, sv_nth, sv_adq, sv_gs] at h11
  have h12 := hf _ (List.mem_of_getElem? (i := 12) rfl)
  simp [sv_FQk, sv_FQ, sv_evs, sv_ev, sv_evT, sv_nth, sv_adq, sv_gs] at h12
  have h13 := hf _ (List.mem_of_getElem? (i := 13) rfl)
  simp [sv_FQk, sv_FQ, sv_evs, sv_ev, sv_evT, sv_nth, sv_adq, sv_gs] at h13
  have h14 := hf _ (List.mem_of_getElem? (i := 14) rfl)
  simp [sv_FQk, sv_FQ, sv_evs, sv_ev, sv_evT, sv_nth, sv_adq, sv_gs] at h14
  have h15 := hf _ (List.mem_of_getElem? (i := 15) rfl)
  simp [sv_FQk, sv_FQ, sv_evs, sv_ev, sv_evT, sv_nth, sv_adq, sv_gs] at h15
  have h16 := hf _ (List.mem_of_getElem? (i := 16) rfl)
  simp [sv_FQk, sv_FQ, sv_evs, sv_ev, sv_evT, sv_nth, sv_adq, sv_gs] at h16
  have h17 := hf _ (List.mem_of_getElem? (i := 17) rfl)
  simp [sv_FQk, sv_FQ, sv_evs, sv_ev, sv_evT, sv_nth, sv_adq, sv_gs] at h17
  have h18 := hf _ (List.mem_of_getElem? (i := 18) rfl)
  simp [sv_FQk, sv_FQ, sv_evs, sv_ev, sv_evT, sv_nth, sv_adq, sv_gs] at h18
  have h19 := hf _ (List.mem_of_getElem? (i := 19) rfl)
  simp [sv_FQk, sv_FQ, sv_evs, sv_ev, sv_evT, sv_nth, sv_adq, sv_gs] at h19
  have h20 := hf _ (List.mem_of_getElem? (i := 20) rfl)
  simp [sv_FQk, sv_FQ, sv_evs, sv_ev, sv_evT, sv_nth, sv_adq, sv_gs] at h20
  have h21 := hf _ (List.mem_of_getElem? (i := 21) rfl)
  simp [sv_FQk, sv_FQ, sv_evs, sv_ev, sv_evT, sv_nth, sv_adq, sv_gs] at h21
  have h22 := hf _ (List.mem_of_getElem? (i := 22) rfl)
  simp [sv_FQk, sv_FQ, sv_evs, sv_ev, sv_evT, sv_nth, sv_adq, sv_gs] at h22
  clear hf
  obtain ⟨⟨⟨-, Ks⟩, ⟨-, Kb⟩, ⟨-, Km⟩, ⟨-, Kg⟩⟩, h0⟩ := h0
  rw [sv_Qvol_iff] at h0
  replace h3 := h3 bs (by omega) (by have := h4 bs; omega)
  replace h6 := h6 bb (by omega) (by have := h7 bb; omega)
  replace h11 := h11 bm (by omega) (by have := h14 bm; omega)
  replace h12 := h12 bm (by omega) (by have := h14 bm; omega)
  replace h13 := h13 bm (by omega) (by have := h14 bm; omega)
  replace h16 := h16 bb (by omega) (by have := h7 bb; omega)
  replace h17 := h17 bb (by omega) (by have := h7 bb; omega)
  intro f hf
  have hf : f ∈ [(0, [], [(0, [(8, -1), (14, 1), (15, 1)])])] := hf
  simp only [List.mem_cons, List.not_mem_nil, or_false] at hf
  subst hf
  · simp [sv_FQk, sv_FQ, sv_evs, sv_ev, sv_evT, sv_nth, sv_adq, sv_gs]
    have q := h0 xv (by omega) (by omega)
    unfold sv_vr at q
    replace q := q.2.2.1 (by omega)
    rw [h11, h12, h13] at q
    omega
-- vol_2
def q_l26 : SvM := ([(0, none), (0, none), (0, none), (0, none), (-1180591620717411303424, none), (-1180591620717411303424, none), (-1180591620717411303424, none), (-1180591620717411303424, none), (-1180591620717411303424, none), (-1180591620717411303424, none), (-1180591620717411303424, none), (-1180591620717411303424, none), (-1180591620717411303424, none), (-1180591620717411303424, none)], [(21, [], [(0, [(0, 1)]), (0, [(1, 1)]), (0, [(2, 1)]), (0, [(3, 1)]), (0, [(4, 1)])]), (0, [], [(0, [(5, 1)])]), (0, [], [(-1, [(4, 1), (5, -1)])]), (4, [42, 1], [(0, [(0, 1)]), (0, [(5, 1)]), (0, [(6, 1)])]), (2, [], [(0, [(0, 1)]), (0, [(7, 1)])]), (0, [], [(-1, [(5, -1), (7, 1)])]), (4, [45, 1], [(0, [(1, 1)]), (0, [(5, 1)]), (0, [(8, 1)])]), (2, [], [(0, [(1, 1)]), (0, [(9, 1)])]), (0, [], [(-1, [(5, -1), (9, 1)])]), (4, [46, 1], [(0, [(2, 1)]), (0, [(10, 1)]), (0, [(11, 1)])]), (2, [], [(0, [(2, 1)]), (0, [(12, 1)])]), (0, [], [(-1, [(10, -1), (12, 1)])]), (0, [], [(0, [(5, -3), (10, 1)])]), (4, [45, 1], [(0, [(1, 1)]), (0, [(11, 1)]), (0, [(13, 1)])]), (0, [], [(-1, [(9, 1), (11, -1)])]), (0, [], [(0, [(11, 1)])]), (0, [], [(-2, [(6, 1)])]), (0, [], [(2, [(6, -1)])]), (0, [], [(2, [(5, 3), (10, -1)])])], [(0, [], [(0, [(8, -1), (13, 3)])])])
theorem q_l26_ok : ∀ (g : Int → Int → Int) (ln : Int → Int) (kf : Int → Nat) (ρ : List Int), sv_BOk ρ q_l26.1 → (∀ f ∈ q_l26.2.1, sv_FQk q_Ks q_Q g ln kf ρ f) → ∀ f ∈ q_l26.2.2, sv_FQk q_Ks q_Q g ln kf ρ f := by
  intro g ln kf ρ hb hf
  obtain ⟨hl, hb⟩ := hb
  obtain ⟨xs, r0, rfl, l0⟩ := sv_lens hl
  obtain ⟨xb, r1, rfl, l1⟩ := sv_lens l0
  obtain ⟨xm, r2, rfl, l2⟩ := sv_lens l1
  obtain ⟨xg, r3, rfl, l3⟩ := sv_lens l2
  obtain ⟨xn, r4, rfl, l4⟩ := sv_lens l3
  obtain ⟨xv, r5, rfl, l5⟩ := sv_lens l4
  obtain ⟨xx, r6, rfl, l6⟩ := sv_lens l5
  obtain ⟨xNS, r7, rfl, l7⟩ := sv_lens l6
  obtain ⟨xy, r8, rfl, l8⟩ := sv_lens l7
  obtain ⟨xNB, r9, rfl, l9⟩ := sv_lens l8
  obtain ⟨xw, r10, rfl, l10⟩ := sv_lens l9
  obtain ⟨xc, r11, rfl, l11⟩ := sv_lens l10
  obtain ⟨xNM, r12, rfl, l12⟩ := sv_lens l11
  obtain ⟨xe, r13, rfl, l13⟩ := sv_lens l12
  obtain rfl := sv_len0 l13
  clear l0 l1 l2 l3 l4 l5 l6 l7 l8 l9 l10 l11 l12 l13 hl
  have bs : 0 ≤ xs := (hb 0 _ _ rfl rfl).1
  have bb : 0 ≤ xb := (hb 1 _ _ rfl rfl).1
  have bm : 0 ≤ xm := (hb 2 _ _ rfl rfl).1
  have bg : 0 ≤ xg := (hb 3 _ _ rfl rfl).1
  clear hb
  have h0 := hf _ (List.mem_of_getElem? (i := 0) rfl)
  simp [sv_FQk, sv_FQ, sv_evs, sv_ev, sv_evT, sv_nth, sv_adq, sv_gs, q_Ks_5, q_Q_5] at h0
  have h1 := hf _ (List.mem_of_getElem? (i := 1) rfl)
  simp [sv_FQk, sv_FQ, sv_evs, sv_ev, sv_evT, sv_nth, sv_adq, sv_gs] at h1
  have h2 := hf _ (List.mem_of_getElem? (i := 2) rfl)
  simp [sv_FQk, sv_FQ, sv_evs, sv_ev, sv_evT, sv_nth, sv_adq, sv_gs] at h2
  have h3 := hf _ (List.mem_of_getElem? (i := 3) rfl)
  simp [sv_FQk, sv_FQ, sv_evs, sv_ev, sv_evT, sv_nth, sv_adq, sv_gs] at h3
  have h4 := hf _ (List.mem_of_getElem? (i := 4) rfl)
  simp [sv_FQk, sv_FQ, sv_evs, sv_ev, sv_evT, sv_nth, sv_adq, sv_gs] at h4
  have h5 := hf _ (List.mem_of_getElem? (i := 5) rfl)
  simp [sv_FQk, sv_FQ, sv_evs, sv_ev, sv_evT, sv_nth, sv_adq, sv_gs] at h5
  have h6 := hf _ (List.mem_of_getElem? (i := 6) rfl)
  simp [sv_FQk, sv_FQ, sv_evs, sv_ev, sv_evT, sv_nth, sv_adq, sv_gs] at h6
  have h7 := hf _ (List.mem_of_getElem? (i := 7) rfl)
  simp [sv_FQk, sv_FQ, sv_evs, sv_ev, sv_evT, sv_nth, sv_adq, sv_gs] at h7
  have h8 := hf _ (List.mem_of_getElem? (i := 8) rfl)
  simp [sv_FQk, sv_FQ, sv_evs, sv_ev, sv_evT, sv_nth, sv_adq, sv_gs] at h8
  have h9 := hf _ (List.mem_of_getElem? (i := 9) rfl)
  simp [sv_FQk, sv_FQ, sv_evs, sv_ev, sv_evT, sv_nth, sv_adq, sv_gs] at h9
  have h10 := hf _ (List.mem_of_getElem? (i := 10) rfl)
  simp [sv_FQk, sv_FQ, sv_evs, sv_ev, sv_evT, sv_nth, sv_adq, sv_gs] at h10
  have h11 := hf _ (List.mem_of_getElem? (i := 11) rfl)
  simp [sv_FQk, sv_FQ, sv_evs, sv_ev, sv_evT, sv_nth, sv_adq, sv_gs] at h11
  have h12 := hf _ (List.mem_of_getElem? (i := 12) rfl)
  simp [sv_FQk, sv_FQ, sv_evs, sv_ev, sv_evT, sv_nth, sv_adq, sv_gs] at h12
  have h13 := hf _ (List.mem_of_getElem? (i := 13) rfl)
  simp [sv_FQk, sv_FQ, sv_evs, sv_ev, sv_evT, sv_nth, sv_adq, sv_gs] at h13
  have h14 := hf _ (List.mem_of_getElem? (i := 14) rfl)
  simp [sv_FQk, sv_FQ, sv_evs, sv_ev, sv_evT, sv_nth, sv_adq, sv_gs] at h14
  have h15 := hf _ (List.mem_of_getElem? (i := 15) rfl)
  simp [sv_FQk, sv_FQ, sv_evs, sv_ev, sv_evT, sv_nth, sv_adq, sv_gs] at h15
  have h16 := hf _ (List.mem_of_getElem? (i := 16) rfl)
  simp [sv_FQk, sv_FQ, sv_evs, sv_ev, sv_evT, sv_nth, sv_adq, sv_gs] at h16
  have h17 := hf _ (List.mem_of_getElem? (i := 17) rfl)
  simp [sv_FQk, sv_FQ, sv_evs, sv_ev, sv_evT, sv_nth, sv_adq, sv_gs] at h17
  have h18 := hf _ (List.mem_of_getElem? (i := 18) rfl)
  simp [sv_FQk, sv_FQ, sv_evs, sv_ev, sv_evT, sv_nth, sv_adq, sv_gs] at h18
  clear hf
  obtain ⟨⟨⟨-, Ks⟩, ⟨-, Kb⟩, ⟨-, Km⟩, ⟨-, Kg⟩⟩, h0⟩ := h0
  rw [sv_Qvol_iff] at h0
  replace h3 := h3 bs (by omega) (by have := h4 bs; omega)
  replace h6 := h6 bb (by omega) (by have := h7 bb; omega)
  replace h9 := h9 bm (by omega) (by have := h10 bm; omega)
  replace h13 := h13 bb (by omega) (by have := h7 bb; omega)
  intro f hf
  have hf : f ∈ [(0, [], [(0, [(8, -1), (13, 3)])])] := hf
  simp only [List.mem_cons, List.not_mem_nil, or_false] at hf
  subst hf
  · simp [sv_FQk, sv_FQ, sv_evs, sv_ev, sv_evT, sv_nth, sv_adq, sv_gs]
    have q := h0 xv (by omega) (by omega)
    unfold sv_vr at q
    replace q := q.2.2.2.1 (by omega)
    rcases (by omega : xw = 3 * xv ∨ xw = 1 + 3 * xv ∨ xw = 2 + 3 * xv) with e | e | e
    all_goals first | omega | (rw [e] at h9; rw [h9] at q; omega)
-- vol_2n
def q_l27 : SvM := ([(0, none), (0, none), (0, none), (0, none), (-1180591620717411303424, none), (-1180591620717411303424, none), (-1180591620717411303424, none), (-1180591620717411303424, none), (-1180591620717411303424, none), (-1180591620717411303424, none), (-1180591620717411303424, none), (-1180591620717411303424, none), (-1180591620717411303424, none), (-1180591620717411303424, none), (-1180591620717411303424, none)], [(21, [], [(0, [(0, 1)]), (0, [(1, 1)]), (0, [(2, 1)]), (0, [(3, 1)]), (0, [(4, 1)])]), (0, [], [(0, [(5, 1)])]), (0, [], [(-1, [(4, 1), (5, -1)])]), (4, [42, 1], [(0, [(0, 1)]), (0, [(5, 1)]), (0, [(6, 1)])]), (2, [], [(0, [(0, 1)]), (0, [(7, 1)])]), (0, [], [(-1, [(5, -1), (7, 1)])]), (4, [45, 1], [(0, [(1, 1)]), (0, [(5, 1)]), (0, [(8, 1)])]), (2, [], [(0, [(1, 1)]), (0, [(9, 1)])]), (0, [], [(-1, [(5, -1), (9, 1)])]), (4, [46, 1], [(0, [(2, 1)]), (0, [(10, 1)]), (0, [(11, 1)])]), (2, [], [(0, [(2, 1)]), (0, [(12, 1)])]), (0, [], [(-1, [(10, -1), (12, 1)])]), (0, [], [(0, [(5, -3), (10, 1)])]), (4, [45, 1], [(0, [(1, 1)]), (0, [(11, 1)]), (0, [(13, 1)])]), (0, [], [(-1, [(9, 1), (11, -1)])]), (0, [], [(0, [(11, 1)])]), (0, [], [(-2, [(6, 1)])]), (0, [], [(2, [(6, -1)])]), (0, [], [(1, [(5, 3), (10, -1)])]), (4, [46, 1], [(0, [(2, 1)]), (2, [(5, 3)]), (0, [(14, 1)])]), (0, [], [(-3, [(5, -3), (12, 1)])]), (0, [], [(-1, [(14, -1)])])], [(0, [], [(0, [(8, -1), (13, 2)])])])
theorem q_l27_ok : ∀ (g : Int → Int → Int) (ln : Int → Int) (kf : Int → Nat) (ρ : List Int), sv_BOk ρ q_l27.1 → (∀ f ∈ q_l27.2.1, sv_FQk q_Ks q_Q g ln kf ρ f) → ∀ f ∈ q_l27.2.2, sv_FQk q_Ks q_Q g ln kf ρ f := by
  intro g ln kf ρ hb hf
  obtain ⟨hl, hb⟩ := hb
  obtain ⟨xs, r0, rfl, l0⟩ := sv_lens hl
  obtain ⟨xb, r1, rfl, l1⟩ := sv_lens l0
  obtain ⟨xm, r2, rfl, l2⟩ := sv_lens l1
  obtain ⟨xg, r3, rfl, l3⟩ := sv_lens l2
  obtain ⟨xn, r4, rfl, l4⟩ := sv_lens l3
  obtain ⟨xv, r5, rfl, l5⟩ := sv_lens l4
  obtain ⟨xx, r6, rfl, l6⟩ := sv_lens l5
  obtain ⟨xNS, r7, rfl, l7⟩ := sv_lens l6
  obtain ⟨xy, r8, rfl, l8⟩ := sv_lens l7
  obtain ⟨xNB, r9, rfl, l9⟩ := sv_lens l8
  obtain ⟨xw, r10, rfl, l10⟩ := sv_lens l9
  obtain ⟨xc, r11, rfl, l11⟩ := sv_lens l10
  obtain ⟨xNM, r12, rfl, l12⟩ := sv_lens l11
  obtain ⟨xe, r13, rfl, l13⟩ := sv_lens l12
  obtain ⟨xd, r14, rfl, l14⟩ := sv_lens l13
  obtain rfl := sv_len0 l14
  clear l0 l1 l2 l3 l4 l5 l6 l7 l8 l9 l10 l11 l12 l13 l14 hl
  have bs : 0 ≤ xs := (hb 0 _ _ rfl rfl).1
  have bb : 0 ≤ xb := (hb 1 _ _ rfl rfl).1
  have bm : 0 ≤ xm := (hb 2 _ _ rfl rfl).1
  have bg : 0 ≤ xg := (hb 3 _ _ rfl rfl).1
  clear hb
  have h0 := hf _ (List.mem_of_getElem? (i := 0) rfl)
  simp [sv_FQk, sv_FQ, sv_evs, sv_ev, sv_evT, sv_nth, sv_adq, sv_gs, q_Ks_5, q_Q_5] at h0
  have h1 := hf _ (List.mem_of_getElem? (i := 1) rfl)
  simp [sv_FQk, sv_FQ, sv_evs, sv_ev, sv_evT, sv_nth, sv_adq, sv_gs] at h1
  have h2 := hf _ (List.mem_of_getElem? (i := 2) rfl)
  simp [sv_FQk, sv_FQ, sv_evs, sv_ev, sv_evT, sv_nth, sv_adq, sv_gs] at h2
  have h3 := hf _ (List.mem_of_getElem? (i := 3) rfl)
  simp [sv_FQk, sv_FQ, sv_evs, sv_ev, sv_evT, sv_nth, sv_adq, sv_gs] at h3
  have h4 := hf _ (List.mem_of_getElem? (i := 4) rfl)
  simp [sv_FQk, sv_FQ, sv_evs, sv_ev, sv_evT, sv_nth, sv_adq, sv_gs] at h4
  have h5 := hf _ (List.mem_of_getElem? (i := 5) rfl)
  simp [sv_FQk, sv_FQ, sv_evs, sv_ev, sv_evT, sv_nth, sv_adq, sv_gs] at h5
  have h6 := hf _ (List.mem_of_getElem? (i := 6) rfl)
  simp [sv_FQk, sv_FQ, sv_evs, sv_ev, sv_evT, sv_nth, sv_adq, sv_gs] at h6
  have h7 := hf _ (List.mem_of_getElem? (i := 7) rfl)
  simp [sv_FQk, sv_FQ, sv_evs, sv_ev, sv_evT, sv_nth, sv_adq, sv_gs] at h7
  have h8 := hf _ (List.mem_of_getElem? (i := 8) rfl)
  simp [sv_FQk, sv_FQ, sv_evs, sv_ev, sv_evT, sv_nth, sv_adq, sv_gs] at h8
  have h9 := hf _ (List.mem_of_getElem? (i := 9) rfl)
  simp [sv_FQk, sv_FQ, sv_evs, sv_ev, sv_evT, sv_nth, sv_adq, sv_gs] at h9
  have h10 := hf _ (List.mem_of_getElem? (i := 10) rfl)
  simp [sv_FQk, sv_FQ, sv_evs, sv_ev, sv_evT, sv_nth, sv_adq, sv_gs] at h10
  have h11 := hf _ (List.mem_of_getElem? (i := 11) rfl)
  simp [sv_FQk, sv_FQ, sv_evs, sv_ev, sv_evT, sv_nth, sv_adq, sv_gs] at h11
  have h12 := hf _ (List.mem_of_getElem? (i := 12) rfl)
  simp [sv_FQk, sv_FQ, sv_evs, sv_ev, sv_evT, sv_nth, sv_adq, sv_gs] at h12
  have h13 := hf _ (List.mem_of_getElem? (i := 13) rfl)
  simp [sv_FQk, sv_FQ, sv_evs, sv_ev, sv_evT, sv_nth, sv_adq, sv_gs] at h13
  have h14 := hf _ (List.mem_of_getElem? (i := 14) rfl)
  simp [sv_FQk, sv_FQ, sv_evs, sv_ev, sv_evT, sv_nth, sv_adq, sv_gs] at h14
  have h15 := hf _ (List.mem_of_getElem? (i := 15) rfl)
  simp [sv_FQk, sv_FQ, sv_evs, sv_ev, sv_evT, sv_nth, sv_adq, sv_gs] at h15
  have h16 := hf _ (List.mem_of_getElem? (i := 16) rfl)
  simp [sv_FQk, sv_FQ, sv_evs, sv_ev, sv_evT, sv_nth, sv_adq, sv_gs] at h16
  have h17 := hf _ (List.mem_of_getElem? (i := 17) rfl)
  simp [sv_FQk, sv_FQ, sv_evs, sv_ev, sv_evT, sv_nth, sv_adq, sv_gs] at h17
  have h18 := hf _ (List.mem_of_getElem? (i := 18) rfl)
  simp [sv_FQk, sv_FQ, sv_evs, sv_ev, sv_evT, sv_nth, sv_adq, sv_gs] at h18
  have h19 := hf _ (List.mem_of_getElem? (i := 19) rfl)
  simp [sv_FQk, sv_FQ, sv_evs, sv_ev, sv_evT, sv_nth, sv_adq, sv_gs] at h19
  have h20 := hf _ (List.mem_of_getElem? (i := 20) rfl)
  simp [sv_FQk, sv_FQ, sv_evs, sv_ev, sv_evT, sv_nth, sv_adq, sv_gs] at h20
  have h21 := hf _ (List.mem_of_getElem? (i := 21) rfl)
  simp [sv_FQk, sv_FQ, sv_evs, sv_ev, sv_evT, sv_nth, sv_adq, sv_gs] at h21
  clear hf
  obtain ⟨⟨⟨-, Ks⟩, ⟨-, Kb⟩, ⟨-, Km⟩, ⟨-, Kg⟩⟩, h0⟩ := h0
  rw [sv_Qvol_iff] at h0
  replace h3 := h3 bs (by omega) (by have := h4 bs; omega)
  replace h6 := h6 bb (by omega) (by have := h7 bb; omega)
  replace h9 := h9 bm (by omega) (by have := h10 bm; omega)
  replace h13 := h13 bb (by omega) (by have := h7 bb; omega)
  replace h19 := h19 bm (by omega) (by have := h10 bm; omega)
  intro f hf
  have hf : f ∈ [(0, [], [(0, [(8, -1), (13, 2)])])] := hf
  simp only [List.mem_cons, List.not_mem_nil, or_false] at hf
  subst hf
  · simp [sv_FQk, sv_FQ, sv_evs, sv_ev, sv_evT, sv_nth, sv_adq, sv_gs]
    have q := h0 xv (by omega) (by omega)
    unfold sv_vr at q
    replace q := q.2.2.2.1 (by omega)
    rcases (by omega : xw = 3 * xv ∨ xw = 1 + 3 * xv ∨ xw = 2 + 3 * xv) with e | e | e
    all_goals first | omega | (rw [e] at h9; rw [h9] at q; (try rw [h19] at q); omega)
-- vol_3
def q_l28 : SvM := ([(0, none), (0, none), (0, none), (0, none), (-1180591620717411303424, none), (-1180591620717411303424, none), (-1180591620717411303424, none), (-1180591620717411303424, none), (-1180591620717411303424, none), (-1180591620717411303424, none), (-1180591620717411303424, none)], [(21, [], [(0, [(0, 1)]), (0, [(1, 1)]), (0, [(2, 1)]), (0, [(3, 1)]), (0, [(4, 1)])]), (0, [], [(0, [(5, 1)])]), (0, [], [(-1, [(4, 1), (5, -1)])]), (4, [42, 1], [(0, [(0, 1)]), (0, [(5, 1)]), (0, [(6, 1)])]), (2, [], [(0, [(0, 1)]), (0, [(7, 1)])]), (0, [], [(-1, [(5, -1), (7, 1)])]), (0, [], [(-3, [(6, 1)])]), (0, [], [(3, [(6, -1)])]), (4, [46, 1], [(0, [(2, 1)]), (0, [(5, 3)]), (0, [(8, 1)])]), (4, [46, 1], [(0, [(2, 1)]), (1, [(5, 3)]), (0, [(9, 1)])]), (2, [], [(0, [(2, 1)]), (0, [(10, 1)])]), (0, [], [(-2, [(5, -3), (10, 1)])]), (0, [], [(-1, [(8, -1)])])], [(0, [], [(0, [(9, 1)])])])
theorem q_l28_ok : ∀ (g : Int → Int → Int) (ln : Int → Int) (kf : Int → Nat) (ρ : List Int), sv_BOk ρ q_l28.1 → (∀ f ∈ q_l28.2.1, sv_FQk q_Ks q_Q g ln kf ρ f) → ∀ f ∈ q_l28.2.2, sv_FQk q_Ks q_Q g ln kf ρ f := by
  intro g ln kf ρ hb hf
  obtain ⟨hl, hb⟩ := hb
  obtain ⟨xs, r0, rfl, l0⟩ := sv_lens hl
  obtain ⟨xb, r1, rfl, l1⟩ := sv_lens l0
  obtain ⟨xm, r2, rfl, l2⟩ := sv_lens l1
  obtain ⟨xg, r3, rfl, l3⟩ := sv_lens l2
  obtain ⟨xn, r4, rfl, l4⟩ := sv_lens l3
  obtain ⟨xv, r5, rfl, l5⟩ := sv_lens l4
  obtain ⟨xx, r6, rfl, l6⟩ := sv_lens l5
  obtain ⟨xNS, r7, rfl, l7⟩ := sv_lens l6
  obtain ⟨xc, r8, rfl, l8⟩ := sv_lens l7
  obtain ⟨xd, r9, rfl, l9⟩ := sv_lens l8
  obtain ⟨xNM, r10, rfl, l10⟩ := sv_lens l9
  obtain rfl := sv_len0 l10
  clear l0 l1 l2 l3 l4 l5 l6 l7 l8 l9 l10 hl
  have bs : 0 ≤ xs := (hb 0 _ _ rfl rfl).1
  have bb : 0 ≤ xb := (hb 1 _ _ rfl rfl).1
  have bm : 0 ≤ xm := (hb 2 _ _ rfl rfl).1
  have bg : 0 ≤ xg := (hb 3 _ _ rfl rfl).1
  clear hb
  have h0 := hf _ (List.mem_of_getElem? (i := 0) rfl)
  simp [sv_FQk, sv_FQ, sv_evs, sv_ev, sv_evT, sv_nth, sv_adq, sv_gs, q_Ks_5, q_Q_5] at h0
  have h1 := hf _ (List.mem_of_getElem? (i := 1) rfl)
  simp [sv_FQk, sv_FQ, sv_evs, sv_ev, sv_evT, sv_nth, sv_adq, sv_gs] at h1
  have h2 := hf _ (List.mem_of_getElem? (i := 2) rfl)
  simp [sv_FQk, sv_FQ, sv_evs, sv_ev, sv_evT, sv_nth, sv_adq, sv_gs] at h2
  have h3 := hf _ (List.mem_of_getElem? (i := 3) rfl)
  simp [sv_FQk, sv_FQ, sv_evs, sv_ev, sv_evT, sv_nth, sv_adq, sv_gs] at h3
  have h4 := hf _ (List.mem_of_getElem? (i := 4) rfl)
  simp [sv_FQk, sv_FQ, sv_evs, sv_ev, sv_evT, sv_nth, sv_adq, sv_gs] at h4
  have h5 := hf _ (List.mem_of_getElem? (i := 5) rfl)
  simp [sv_FQk, sv_FQ, sv_evs, sv_ev, sv_evT, sv_nth, sv_adq, sv_gs] at h5
  have h6 := hf _ (List.mem_of_getElem? (i := 6) rfl)
  simp [sv_FQk, sv_FQ, sv_evs, sv_ev, sv_evT, sv_nth, sv_adq, sv_gs] at h6
  have h7 := hf _ (List.mem_of_getElem? (i := 7) rfl)
  simp [sv_FQk, sv_FQ, sv_evs, sv_ev, sv_evT, sv_nth, sv_adq, sv_gs] at h7
  have h8 := hf _ (List.mem_of_getElem? (i := 8) rfl)
  simp [sv_FQk, sv_FQ, sv_evs, sv_ev, sv_evT, sv_nth, sv_adq, sv_gs] at h8
  have h9 := hf _ (List.mem_of_getElem? (i := 9) rfl)
  simp [sv_FQk, sv_FQ, sv_evs, sv_ev, sv_evT, sv_nth, sv_adq, sv_gs] at h9
  have h10 := hf _ (List.mem_of_getElem? (i := 10) rfl)
  simp [sv_FQk, sv_FQ, sv_evs, sv_ev, sv_evT, sv_nth, sv_adq, sv_gs] at h10
  have h11 := hf _ (List.mem_of_getElem? (i := 11) rfl)
  simp [sv_FQk, sv_FQ, sv_evs, sv_ev, sv_evT, sv_nth, sv_adq, sv_gs] at h11
  have h12 := hf _ (List.mem_of_getElem? (i := 12) rfl)
  simp [sv_FQk, sv_FQ, sv_evs, sv_ev, sv_evT, sv_nth, sv_adq, sv_gs] at h12
  clear hf
  obtain ⟨⟨⟨-, Ks⟩, ⟨-, Kb⟩, ⟨-, Km⟩, ⟨-, Kg⟩⟩, h0⟩ := h0
  rw [sv_Qvol_iff] at h0
  replace h3 := h3 bs (by omega) (by have := h4 bs; omega)
  replace h8 := h8 bm (by omega) (by have := h10 bm; omega)
  replace h9 := h9 bm (by omega) (by have := h10 bm; omega)
  intro f hf
  have hf : f ∈ [(0, [], [(0, [(9, 1)])])] := hf
  simp only [List.mem_cons, List.not_mem_nil, or_false] at hf
  subst hf
  · simp [sv_FQk, sv_FQ, sv_evs, sv_ev, sv_evT, sv_nth, sv_adq, sv_gs]
    have q := h0 xv (by omega) (by omega)
    unfold sv_vr at q
    replace q := q.2.2.2.2.1 (by omega)
    rw [h8, h9] at q
    omega
-- vol_3b
def q_l29 : SvM := ([(0, none), (0, none), (0, none), (0, none), (-1180591620717411303424, none), (-1180591620717411303424, none), (-1180591620717411303424, none), (-1180591620717411303424, none), (-1180591620717411303424, none), (-1180591620717411303424, none), (-1180591620717411303424, none), (-1180591620717411303424, none), (-1180591620717411303424, none), (-1180591620717411303424, none)], [(21, [], [(0, [(0, 1)]), (0, [(1, 1)]), (0, [(2, 1)]), (0, [(3, 1)]), (0, [(4, 1)])]), (0, [], [(0, [(5, 1)])]), (0, [], [(-1, [(4, 1), (5, -1)])]), (4, [42, 1], [(0, [(0, 1)]), (0, [(5, 1)]), (0, [(6, 1)])]), (2, [], [(0, [(0, 1)]), (0, [(7, 1)])]), (0, [], [(-1, [(5, -1), (7, 1)])]), (4, [45, 1], [(0, [(1, 1)]), (0, [(5, 1)]), (0, [(8, 1)])]), (2, [], [(0, [(1, 1)]), (0, [(9, 1)])]), (0, [], [(-1, [(5, -1), (9, 1)])]), (4, [46, 1], [(0, [(2, 1)]), (0, [(10, 1)]), (0, [(11, 1)])]), (2, [], [(0, [(2, 1)]), (0, [(12, 1)])]), (0, [], [(-1, [(10, -1), (12, 1)])]), (0, [], [(0, [(5, -3), (10, 1)])]), (4, [45, 1], [(0, [(1, 1)]), (0, [(11, 1)]), (0, [(13, 1)])]), (0, [], [(-1, [(9, 1), (11, -1)])]), (0, [], [(0, [(11, 1)])]), (0, [], [(-3, [(6, 1)])]), (0, [], [(3, [(6, -1)])]), (0, [], [(1, [(5, 3), (10, -1)])])], [(0, [], [(0, [(8, -1), (13, 1)])])])
theorem q_l29_ok : ∀ (g : Int → Int → Int) (ln : Int → Int) (kf : Int → Nat) (ρ : List Int), sv_BOk ρ q_l29.1 → (∀ f ∈ q_l29.2.1, sv_FQk q_Ks q_Q g ln kf ρ f) → ∀ f ∈ q_l29.2.2, sv_FQk q_Ks q_Q g ln kf ρ f := by
  intro g ln kf ρ hb hf
  obtain ⟨hl, hb⟩ := hb
  obtain ⟨xs, r0, rfl, l0⟩ := sv_lens hl
  obtain ⟨xb, r1, rfl, l1⟩ := sv_lens l0
  obtain ⟨xm, r2, rfl, l2⟩ := sv_lens l1
  obtain ⟨xg, r3, rfl, l3⟩ := sv_lens l2
  obtain ⟨xn, r4, rfl, l4⟩ := sv_lens l3
  obtain ⟨xv, r5, rfl, l5⟩ := sv_lens l4
  obtain ⟨xx, r6, rfl, l6⟩ := sv_lens l5
  obtain ⟨xNS, r7, rfl, l7⟩ := sv_lens l6
  obtain ⟨xy, r8, rfl, l8⟩ := sv_lens l7
  obtain ⟨xNB, r9, rfl, l9⟩ := sv_lens l8
  obtain ⟨xw, r10, rfl, l10⟩ := sv_lens l9
  obtain ⟨xc, r11, rfl, l11⟩ := sv_lens l10
  obtain ⟨xNM, r12, rfl, l12⟩ := sv_lens l11
  obtain ⟨xe, r13, rfl, l13⟩ := sv_lens l12
  obtain rfl := sv_len0 l13
  clear l0 l1 l2 l3 l4 l5 l6 l7 l8 l9 l10 l11 l12 l13 hl
  have bs : 0 ≤ xs := (hb 0 _ _ rfl rfl).1
  have bb : 0 ≤ xb := (hb 1 _ _ rfl rfl).1
  have bm : 0 ≤ xm := (hb 2 _ _ rfl rfl).1
  have bg : 0 ≤ xg := (hb 3 _ _ rfl rfl).1
  clear hb
  have h0 := hf _ (List.mem_of_getElem? (i := 0) rfl)
  simp [sv_FQk, sv_FQ, sv_evs, sv_ev, sv_evT, sv_nth, sv_adq, sv_gs, q_Ks_5, q_Q_5] at h0
  have h1 := hf _ (List.mem_of_getElem? (i := 1) rfl)
  simp [sv_FQk, sv_FQ, sv_evs, sv_ev, sv_evT, sv_nth, sv_adq, sv_gs] at h1
  have h2 := hf _ (List.mem_of_getElem? (i := 2) rfl)
  simp [sv_FQk, sv_FQ, sv_evs, sv_ev, sv_evT, sv_nth, sv_adq, sv_gs] at h2
  have h3 := hf _ (List.mem_of_getElem? (i := 3) rfl)
  simp [sv_FQk, sv_FQ, sv_evs, sv_ev, sv_evT, sv_nth, sv_adq, sv_gs] at h3
  have h4 := hf _ (List.mem_of_getElem? (i := 4) rfl)
  simp [sv_FQk, sv_FQ, sv_evs, sv_ev, sv_evT, sv_nth, sv_adq, sv_gs] at h4
  have h5 := hf _ (List.mem_of_getElem? (i := 5) rfl)
  simp [sv_FQk, sv_FQ, sv_evs, sv_ev, sv_evT, sv_nth, sv_adq, sv_gs] at h5
  have h6 := hf _ (List.mem_of_getElem? (i := 6) rfl)
  simp [sv_FQk, sv_FQ, sv_evs, sv_ev, sv_evT, sv_nth, sv_adq, sv_gs] at h6
  have h7 := hf _ (List.mem_of_getElem? (i := 7) rfl)
  simp [sv_FQk, sv_FQ, sv_evs, sv_ev, sv_evT, sv_nth, sv_adq, sv_gs] at h7
  have h8 := hf _ (List.mem_of_getElem? (i := 8) rfl)
  simp [sv_FQk, sv_FQ, sv_evs, sv_ev, sv_evT, sv_nth, sv_adq, sv_gs] at h8
  have h9 := hf _ (List.mem_of_getElem? (i := 9) rfl)
  simp [sv_FQk, sv_FQ, sv_evs, sv_ev, sv_evT, sv_nth, sv_adq, sv_gs] at h9
  have h10 := hf _ (List.mem_of_getElem? (i := 10) rfl)
  simp [sv_FQk, sv_FQ, sv_evs, sv_ev, sv_evT, sv_nth, sv_adq, sv_gs] at h10
  have h11 := hf _ (List.mem_of_getElem? (i := 11) rfl)
  simp [sv_FQk, sv_FQ, sv_evs, sv_ev, sv_evT, sv_nth, sv_adq, sv_gs] at h11
  have h12 := hf _ (List.mem_of_getElem? (i := 12) rfl)
  simp [sv_FQk, sv_FQ, sv_evs, sv_ev, sv_evT, sv_nth, sv_adq, sv_gs] at h12
  have h13 := hf _ (List.mem_of_getElem? (i := 13) rfl)
  simp [sv_FQk, sv_FQ, sv_evs, sv_ev, sv_evT, sv_nth, sv_adq, sv_gs] at h13
  have h14 := hf _ (List.mem_of_getElem? (i := 14) rfl)
  simp [sv_FQk, sv_FQ, sv_evs, sv_ev, sv_evT, sv_nth, sv_adq, sv_gs] at h14
  have h15 := hf _ (List.mem_of_getElem? (i := 15) rfl)
  simp [sv_FQk, sv_FQ, sv_evs, sv_ev, sv_evT, sv_nth, sv_adq, sv_gs] at h15
  have h16 := hf _ (List.mem_of_getElem? (i := 16) rfl)
  simp [sv_FQk, sv_FQ, sv_evs, sv_ev, sv_evT, sv_nth, sv_adq, sv_gs] at h16
  have h17 := hf _ (List.mem_of_getElem? (i := 17) rfl)
  simp [sv_FQk, sv_FQ, sv_evs, sv_ev, sv_evT, sv_nth, sv_adq, sv_gs] at h17
  have h18 := hf _ (List.mem_of_getElem? (i := 18) rfl)
  simp [sv_FQk, sv_FQ, sv_evs, sv_ev, sv_evT, sv_nth, sv_adq, sv_gs] at h18
  clear hf
  obtain ⟨⟨⟨-, Ks⟩, ⟨-, Kb⟩, ⟨-, Km⟩, ⟨-, Kg⟩⟩, h0⟩ := h0
  rw [sv_Qvol_iff] at h0
  replace h3 := h3 bs (by omega) (by have := h4 bs; omega)
  replace h6 := h6 bb (by omega) (by have := h7 bb; omega)
  replace h9 := h9 bm (by omega) (by have := h10 bm; omega)
  replace h13 := h13 bb (by omega) (by have := h7 bb; omega)
  intro f hf
  have hf : f ∈ [(0, [], [(0, [(8, -1), (13, 1)])])] := hf
  simp only [List.mem_cons, List.not_mem_nil, or_false] at hf
  subst hf
  · simp [sv_FQk, sv_FQ, sv_evs, sv_ev, sv_evT, sv_nth, sv_adq, sv_gs]
    have q := h0 xv (by omega) (by omega)
    unfold sv_vr at q
    replace q := q.2.2.2.2.1 (by omega)
    rcases (by omega : xw = 3 * xv ∨ xw = 1 + 3 * xv ∨ xw = 2 + 3 * xv) with e | e | e
    all_goals first | omega | (rw [e] at h9; rw [h9] at q; omega)
