-- ===== laws of opaque facts =====
-- wk_m4
def q_l150 : SvM := ([(0, none), (-1180591620717411303424, none), (-1180591620717411303424, none), (-1180591620717411303424, none), (-1180591620717411303424, none), (-1180591620717411303424, none), (-1180591620717411303424, none)], [(45, [], [(0, [(0, 1)]), (0, [(1, 1)]), (0, [(2, 1)])]), (45, [], [(0, [(0, 1)]), (0, [(3, 1)]), (0, [(4, 1)])]), (0, [], [(0, [(1, 1)])]), (0, [], [(-1, [(1, -1), (3, 1)])]), (4, [38, 1], [(0, [(0, 1)]), (0, [(2, 1)]), (0, [(5, 1)])]), (2, [], [(0, [(0, 1)]), (0, [(6, 1)])]), (0, [], [(0, [(2, 1)])]), (0, [], [(-1, [(2, -1), (6, 1)])]), (0, [], [(-3, [(5, 1)])])], [(0, [], [(-1, [(2, -1), (4, 1)])])])
theorem q_l150_ok : ∀ (g : Int → Int → Int) (ln : Int → Int) (kf : Int → Nat) (ρ : List Int), sv_BOk ρ q_l150.1 → (∀ f ∈ q_l150.2.1, sv_FQk q_Ks q_Q g ln kf ρ f) → ∀ f ∈ q_l150.2.2, sv_FQk q_Ks q_Q g ln kf ρ f := by
  intro g ln kf ρ hb hf
  obtain ⟨hl, hb⟩ := hb
  obtain ⟨xa, r0, rfl, l0⟩ := sv_lens hl
  obtain ⟨xs, r1, rfl, l1⟩ := sv_lens l0
  obtain ⟨xp, r2, rfl, l2⟩ := sv_lens l1
  obtain ⟨xn, r3, rfl, l3⟩ := sv_lens l2
  obtain ⟨xe, r4, rfl, l4⟩ := sv_lens l3
  obtain ⟨xx, r5, rfl, l5⟩ := sv_lens l4
  obtain ⟨xN, r6, rfl, l6⟩ := sv_lens l5
  obtain rfl := sv_len0 l6
  clear l0 l1 l2 l3 l4 l5 l6 hl
  have ba : 0 ≤ xa := (hb 0 _ _ rfl rfl).1
  clear hb
  have h0 := hf _ (List.mem_of_getElem? (i := 0) rfl)
  simp [sv_FQk, sv_FQ, sv_evs, sv_ev, sv_evT, sv_nth, sv_adq, sv_gs, q_Ks, q_Q] at h0
  have h1 := hf _ (List.mem_of_getElem? (i := 1) rfl)
  simp [sv_FQk, sv_FQ, sv_evs, sv_ev, sv_evT, sv_nth, sv_adq, sv_gs, q_Ks, q_Q] at h1
  have h2 := hf _ (List.mem_of_getElem? (i := 2) rfl)
  simp [sv_FQk, sv_FQ, sv_evs, sv_ev, sv_evT, sv_nth, sv_adq, sv_gs, q_Ks, q_Q] at h2
  have h3 := hf _ (List.mem_of_getElem? (i := 3) rfl)
  simp [sv_FQk, sv_FQ, sv_evs, sv_ev, sv_evT, sv_nth, sv_adq, sv_gs, q_Ks, q_Q] at h3
  have h4 := hf _ (List.mem_of_getElem? (i := 4) rfl)
  simp [sv_FQk, sv_FQ, sv_evs, sv_ev, sv_evT, sv_nth, sv_adq, sv_gs, q_Ks, q_Q] at h4
  have h5 := hf _ (List.mem_of_getElem? (i := 5) rfl)
  simp [sv_FQk, sv_FQ, sv_evs, sv_ev, sv_evT, sv_nth, sv_adq, sv_gs, q_Ks, q_Q] at h5
  have h6 := hf _ (List.mem_of_getElem? (i := 6) rfl)
  simp [sv_FQk, sv_FQ, sv_evs, sv_ev, sv_evT, sv_nth, sv_adq, sv_gs, q_Ks, q_Q] at h6
  have h7 := hf _ (List.mem_of_getElem? (i := 7) rfl)
  simp [sv_FQk, sv_FQ, sv_evs, sv_ev, sv_evT, sv_nth, sv_adq, sv_gs, q_Ks, q_Q] at h7
  have h8 := hf _ (List.mem_of_getElem? (i := 8) rfl)
  simp [sv_FQk, sv_FQ, sv_evs, sv_ev, sv_evT, sv_nth, sv_adq, sv_gs, q_Ks, q_Q] at h8
  clear hf
  obtain ⟨⟨-, ka⟩, h0⟩ := h0
  rw [sv_Qwk_iff] at h0
  obtain ⟨⟨-, ka⟩, h1⟩ := h1
  rw [sv_Qwk_iff] at h1
  replace h4 := h4 ba (by omega) (by have := h5 ba; omega)
  intro f hf
  have hf : f ∈ [(0, [], [(-1, [(2, -1), (4, 1)])])] := hf
  simp only [List.mem_cons, List.not_mem_nil, or_false] at hf
  subst hf
  · simp [sv_FQk, sv_FQ, sv_evs, sv_ev, sv_evT, sv_nth, sv_adq, sv_gs, q_Ks, q_Q]
    have q := sv_wk_step (by omega) h0
    rw [h4] at q
    have e : sv_wk1 xx = 1 := by unfold sv_wk1; rw [if_neg (by omega), if_neg (by omega)]
    have r := sv_wk_mono (f := g xa) (n := (1 + xs).toNat) (m := xn.toNat) (by omega)
    omega
-- wk_b
def q_l151 : SvM := ([(0, none), (-1180591620717411303424, none), (-1180591620717411303424, none), (-1180591620717411303424, none), (-1180591620717411303424, none)], [(45, [], [(0, [(0, 1)]), (0, [(1, 1)]), (0, [(2, 1)])]), (45, [], [(0, [(0, 1)]), (0, [(3, 1)]), (0, [(4, 1)])]), (0, [], [(0, [(1, 1)])]), (0, [], [(-1, [(1, -1), (3, 1)])])], [(0, [], [(-1, [(2, -1), (4, 1)])])])
theorem q_l151_ok : ∀ (g : Int → Int → Int) (ln : Int → Int) (kf : Int → Nat) (ρ : List Int), sv_BOk ρ q_l151.1 → (∀ f ∈ q_l151.2.1, sv_FQk q_Ks q_Q g ln kf ρ f) → ∀ f ∈ q_l151.2.2, sv_FQk q_Ks q_Q g ln kf ρ f := by
  intro g ln kf ρ hb hf
  obtain ⟨hl, hb⟩ := hb
  obtain ⟨xa, r0, rfl, l0⟩ := sv_lens hl
  obtain ⟨xs, r1, rfl, l1⟩ := sv_lens l0
  obtain ⟨xp, r2, rfl, l2⟩ := sv_lens l1
  obtain ⟨xn, r3, rfl, l3⟩ := sv_lens l2
  obtain ⟨xe, r4, rfl, l4⟩ := sv_lens l3
  obtain rfl := sv_len0 l4
  clear l0 l1 l2 l3 l4 hl
  have ba : 0 ≤ xa := (hb 0 _ _ rfl rfl).1
  clear hb
  have h0 := hf _ (List.mem_of_getElem? (i := 0) rfl)
  simp [sv_FQk, sv_FQ, sv_evs, sv_ev, sv_evT, sv_nth, sv_adq, sv_gs, q_Ks, q_Q] at h0
  have h1 := hf _ (List.mem_of_getElem? (i := 1) rfl)
  simp [sv_FQk, sv_FQ, sv_evs, sv_ev, sv_evT, sv_nth, sv_adq, sv_gs, q_Ks, q_Q] at h1
  have h2 := hf _ (List.mem_of_getElem? (i := 2) rfl)
  simp [sv_FQk, sv_FQ, sv_evs, sv_ev, sv_evT, sv_nth, sv_adq, sv_gs, q_Ks, q_Q] at h2
  have h3 := hf _ (List.mem_of_getElem? (i := 3) rfl)
  simp [sv_FQk, sv_FQ, sv_evs, sv_ev, sv_evT, sv_nth, sv_adq, sv_gs, q_Ks, q_Q] at h3
  clear hf
  obtain ⟨⟨-, ka⟩, h0⟩ := h0
  rw [sv_Qwk_iff] at h0
  obtain ⟨⟨-, ka⟩, h1⟩ := h1
  rw [sv_Qwk_iff] at h1
  intro f hf
  have hf : f ∈ [(0, [], [(-1, [(2, -1), (4, 1)])])] := hf
  simp only [List.mem_cons, List.not_mem_nil, or_false] at hf
  subst hf
  · simp [sv_FQk, sv_FQ, sv_evs, sv_ev, sv_evT, sv_nth, sv_adq, sv_gs, q_Ks, q_Q]
    have q := sv_wk_step (by omega) h0
    have e := sv_wk1_pos (g xa xp)
    have r := sv_wk_mono (f := g xa) (n := (1 + xs).toNat) (m := xn.toNat) (by omega)
    omega
-- cg_0
def q_l152 : SvM := ([(0, none), (-1180591620717411303424, none), (-1180591620717411303424, none), (-1180591620717411303424, none)], [(1, [74], [(0, [(0, 1)])]), (0, [], [(0, [(3, -1)])])], [(46, [], [(0, [(0, 1)]), (0, [(1, 1)]), (0, [(2, 1)]), (0, [(3, 1)])])])
-- cg_b
def q_l153 : SvM := ([(0, none), (-1180591620717411303424, none), (-1180591620717411303424, none), (-1180591620717411303424, none), (-1180591620717411303424, none), (-1180591620717411303424, none), (-1180591620717411303424, none)], [(46, [], [(0, [(0, 1)]), (0, [(1, 1)]), (0, [(2, 1)]), (0, [(3, 1)])]), (4, [74, 1], [(0, [(0, 1)]), (0, [(4, 1)]), (0, [(5, 1)])]), (2, [], [(0, [(0, 1)]), (0, [(6, 1)])]), (0, [], [(0, [(4, 1)])]), (0, [], [(-1, [(4, -1), (6, 1)])]), (0, [], [(0, [(1, -1), (4, 1)])]), (0, [], [(-1, [(2, 1), (4, -1)])]), (0, [], [(15, [(5, -1)])])], [(0, [], [(-1, [(1, -1), (2, 1), (3, -1)])])])
-- cg_n
def q_l154 : SvM := ([(0, none), (-1180591620717411303424, none), (-1180591620717411303424, none), (-1180591620717411303424, none)], [(46, [], [(0, [(0, 1)]), (0, [(1, 1)]), (0, [(2, 1)]), (0, [(3, 1)])]), (0, [], [(0, [(1, -1), (2, 1)])])], [(0, [], [(0, [(1, -1), (2, 1), (3, -1)])])])
-- fb_el
def q_l155 : SvM := ([(0, none), (-1180591620717411303424, none), (-1180591620717411303424, none), (-1180591620717411303424, none), (-1180591620717411303424, none), (-1180591620717411303424, none), (-1180591620717411303424, none)], [(48, [], [(0, [(0, 1)]), (0, [(1, 1)]), (0, [(2, 1)]), (0, [(3, 1)])]), (4, [94, 1], [(0, [(0, 1)]), (0, [(4, 1)]), (0, [(5, 1)])]), (2, [], [(0, [(0, 1)]), (0, [(6, 1)])]), (0, [], [(0, [(1, -1), (4, 1)])]), (0, [], [(-1, [(2, 1), (4, -1)])]), (0, [], [(0, [(4, 1)])]), (0, [], [(-1, [(4, -1), (6, 1)])])], [(0, [], [(0, [(3, -1), (5, 1)])])])
theorem q_l155_ok : ∀ (g : Int → Int → Int) (ln : Int → Int) (kf : Int → Nat) (ρ : List Int), sv_BOk ρ q_l155.1 → (∀ f ∈ q_l155.2.1, sv_FQk q_Ks q_Q g ln kf ρ f) → ∀ f ∈ q_l155.2.2, sv_FQk q_Ks q_Q g ln kf ρ f := by
  intro g ln kf ρ hb hf
  obtain ⟨hl, hb⟩ := hb
  obtain ⟨xa, r0, rfl, l0⟩ := sv_lens hl
  obtain ⟨xlo, r1, rfl, l1⟩ := sv_lens l0
  obtain ⟨xhi, r2, rfl, l2⟩ := sv_lens l1
  obtain ⟨xl, r3, rfl, l3⟩ := sv_lens l2
  obtain ⟨xi, r4, rfl, l4⟩ := sv_lens l3
  obtain ⟨xx, r5, rfl, l5⟩ := sv_lens l4
  obtain ⟨xN, r6, rfl, l6⟩ := sv_lens l5
  obtain rfl := sv_len0 l6
  clear l0 l1 l2 l3 l4 l5 l6 hl
  have ba : 0 ≤ xa := (hb 0 _ _ rfl rfl).1
  clear hb
  have h0 := hf _ (List.mem_of_getElem? (i := 0) rfl)
  simp [sv_FQk, sv_FQ, sv_evs, sv_ev, sv_evT, sv_nth, sv_adq, sv_gs, q_Ks, q_Q] at h0
  have h1 := hf _ (List.mem_of_getElem? (i := 1) rfl)
  simp [sv_FQk, sv_FQ, sv_evs, sv_ev, sv_evT, sv_nth, sv_adq, sv_gs, q_Ks, q_Q] at h1
  have h2 := hf _ (List.mem_of_getElem? (i := 2) rfl)
  simp [sv_FQk, sv_FQ, sv_evs, sv_ev, sv_evT, sv_nth, sv_adq, sv_gs, q_Ks, q_Q] at h2
  have h3 := hf _ (List.mem_of_getElem? (i := 3) rfl)
  simp [sv_FQk, sv_FQ, sv_evs, sv_ev, sv_evT, sv_nth, sv_adq, sv_gs, q_Ks, q_Q] at h3
  have h4 := hf _ (List.mem_of_getElem? (i := 4) rfl)
  simp [sv_FQk, sv_FQ, sv_evs, sv_ev, sv_evT, sv_nth, sv_adq, sv_gs, q_Ks, q_Q] at h4
  have h5 := hf _ (List.mem_of_getElem? (i := 5) rfl)
  simp [sv_FQk, sv_FQ, sv_evs, sv_ev, sv_evT, sv_nth, sv_adq, sv_gs, q_Ks, q_Q] at h5
  have h6 := hf _ (List.mem_of_getElem? (i := 6) rfl)
  simp [sv_FQk, sv_FQ, sv_evs, sv_ev, sv_evT, sv_nth, sv_adq, sv_gs, q_Ks, q_Q] at h6
  clear hf
  obtain ⟨⟨-, ka⟩, h0⟩ := h0
  rw [sv_Qlb_iff] at h0
  replace h1 := h1 ba (by omega) (by have := h2 ba; omega)
  intro f hf
  have hf : f ∈ [(0, [], [(0, [(3, -1), (5, 1)])])] := hf
  simp only [List.mem_cons, List.not_mem_nil, or_false] at hf
  subst hf
  · simp [sv_FQk, sv_FQ, sv_evs, sv_ev, sv_evT, sv_nth, sv_adq, sv_gs, q_Ks, q_Q]
    have q := h0 xi (by omega) (by omega)
    rw [h1] at q
    omega
-- fb_0
def q_l156 : SvM := ([(0, none), (-1180591620717411303424, none), (-1180591620717411303424, none), (-1180591620717411303424, none)], [(1, [94], [(0, [(0, 1)])]), (0, [], [(0, [(1, 1), (2, -1)])])], [(48, [], [(0, [(0, 1)]), (0, [(1, 1)]), (0, [(2, 1)]), (0, [(3, 1)])])])
theorem q_l156_ok : ∀ (g : Int → Int → Int) (ln : Int → Int) (kf : Int → Nat) (ρ : List Int), sv_BOk ρ q_l156.1 → (∀ f ∈ q_l156.2.1, sv_FQk q_Ks q_Q g ln kf ρ f) → ∀ f ∈ q_l156.2.2, sv_FQk q_Ks q_Q g ln kf ρ f := by
  intro g ln kf ρ hb hf
  obtain ⟨hl, hb⟩ := hb
  obtain ⟨xa, r0, rfl, l0⟩ := sv_lens hl
  obtain ⟨xlo, r1, rfl, l1⟩ := sv_lens l0
  obtain ⟨xhi, r2, rfl, l2⟩ := sv_lens l1
  obtain ⟨xl, r3, rfl, l3⟩ := sv_lens l2
  obtain rfl := sv_len0 l3
  clear l0 l1 l2 l3 hl
  have ba : 0 ≤ xa := (hb 0 _ _ rfl rfl).1
  clear hb
  have h0 := hf _ (List.mem_of_getElem? (i := 0) rfl)
  simp [sv_FQk, sv_FQ, sv_evs, sv_ev, sv_evT, sv_nth, sv_adq, sv_gs, q_Ks, q_Q] at h0
  have h1 := hf _ (List.mem_of_getElem? (i := 1) rfl)
  simp [sv_FQk, sv_FQ, sv_evs, sv_ev, sv_evT, sv_nth, sv_adq, sv_gs, q_Ks, q_Q] at h1
  clear hf
  have ka : kf xa = 94 := by omega
  intro f hf
  have hf : f ∈ [(48, [], [(0, [(0, 1)]), (0, [(1, 1)]), (0, [(2, 1)]), (0, [(3, 1)])])] := hf
  simp only [List.mem_cons, List.not_mem_nil, or_false] at hf
  subst hf
  · simp [sv_FQk, sv_FQ, sv_evs, sv_ev, sv_evT, sv_nth, sv_adq, sv_gs, q_Ks, q_Q]
    refine ⟨⟨ba, ka⟩, ?_⟩
    rw [sv_Qlb_iff]
    intro j j1 j2
    omega
-- fb_w
def q_l157 : SvM := ([(0, none), (-1180591620717411303424, none), (-1180591620717411303424, none), (-1180591620717411303424, none), (-1180591620717411303424, none), (-1180591620717411303424, none), (-1180591620717411303424, none)], [(48, [], [(0, [(0, 1)]), (0, [(1, 1)]), (0, [(2, 1)]), (0, [(3, 1)])]), (0, [], [(0, [(1, -1), (4, 1)])]), (0, [], [(0, [(2, 1), (5, -1)])]), (0, [], [(0, [(3, 1), (6, -1)])])], [(48, [], [(0, [(0, 1)]), (0, [(4, 1)]), (0, [(5, 1)]), (0, [(6, 1)])])])
theorem q_l157_ok : ∀ (g : Int → Int → Int) (ln : Int → Int) (kf : Int → Nat) (ρ : List Int), sv_BOk ρ q_l157.1 → (∀ f ∈ q_l157.2.1, sv_FQk q_Ks q_Q g ln kf ρ f) → ∀ f ∈ q_l157.2.2, sv_FQk q_Ks q_Q g ln kf ρ f := by
  intro g ln kf ρ hb hf
  obtain ⟨hl, hb⟩ := hb
  obtain ⟨xa, r0, rfl, l0⟩ := sv_lens hl
  obtain ⟨xlo, r1, rfl, l1⟩ := sv_lens l0
  obtain ⟨xhi, r2, rfl, l2⟩ := sv_lens l1
  obtain ⟨xl, r3, rfl, l3⟩ := sv_lens l2
  obtain ⟨xlp, r4, rfl, l4⟩ := sv_lens l3
  obtain ⟨xhp, r5, rfl, l5⟩ := sv_lens l4
  obtain ⟨xkp, r6, rfl, l6⟩ := sv_lens l5
  obtain rfl := sv_len0 l6
  clear l0 l1 l2 l3 l4 l5 l6 hl
  have ba : 0 ≤ xa := (hb 0 _ _ rfl rfl).1
  clear hb
  have h0 := hf _ (List.mem_of_getElem? (i := 0) rfl)
  simp [sv_FQk, sv_FQ, sv_evs, sv_ev, sv_evT, sv_nth, sv_adq, sv_gs, q_Ks, q_Q] at h0
  have h1 := hf _ (List.mem_of_getElem? (i := 1) rfl)
  simp [sv_FQk, sv_FQ, sv_evs, sv_ev, sv_evT, sv_nth, sv_adq, sv_gs, q_Ks, q_Q] at h1
  have h2 := hf _ (List.mem_of_getElem? (i := 2) rfl)
  simp [sv_FQk, sv_FQ, sv_evs, sv_ev, sv_evT, sv_nth, sv_adq, sv_gs, q_Ks, q_Q] at h2
  have h3 := hf _ (List.mem_of_getElem? (i := 3) rfl)
  simp [sv_FQk, sv_FQ, sv_evs, sv_ev, sv_evT, sv_nth, sv_adq, sv_gs, q_Ks, q_Q] at h3
  clear hf
  obtain ⟨⟨-, ka⟩, h0⟩ := h0
  rw [sv_Qlb_iff] at h0
  intro f hf
  have hf : f ∈ [(48, [], [(0, [(0, 1)]), (0, [(4, 1)]), (0, [(5, 1)]), (0, [(6, 1)])])] := hf
  simp only [List.mem_cons, List.not_mem_nil, or_false] at hf
  subst hf
  · simp [sv_FQk, sv_FQ, sv_evs, sv_ev, sv_evT, sv_nth, sv_adq, sv_gs, q_Ks, q_Q]
    refine ⟨⟨ba, ka⟩, ?_⟩
    rw [sv_Qlb_iff]
    intro j j1 j2
    have q := h0 j (by omega) (by omega)
    omega
-- fc_0
def q_l158 : SvM := ([(0, none), (0, none), (-1180591620717411303424, none), (-1180591620717411303424, none)], [(1, [94], [(0, [(0, 1)])]), (1, [93], [(0, [(1, 1)])]), (0, [], [(0, [(3, -1)])])], [(47, [], [(0, [(0, 1)]), (0, [(1, 1)]), (0, [(2, 1)]), (0, [(3, 1)])])])
-- fc_w
def q_l159 : SvM := ([(0, none), (0, none), (-1180591620717411303424, none), (-1180591620717411303424, none), (-1180591620717411303424, none)], [(47, [], [(0, [(0, 1)]), (0, [(1, 1)]), (0, [(2, 1)]), (0, [(3, 1)])]), (0, [], [(0, [(3, 1), (4, -1)])])], [(47, [], [(0, [(0, 1)]), (0, [(1, 1)]), (0, [(2, 1)]), (0, [(4, 1)])])])
-- fc_e
def q_l160 : SvM := ([(0, none), (0, none), (-1180591620717411303424, none), (-1180591620717411303424, none), (-1180591620717411303424, none), (-1180591620717411303424, none), (-1180591620717411303424, none), (-1180591620717411303424, none), (-1180591620717411303424, none), (-1180591620717411303424, none)], [(47, [], [(0, [(0, 1)]), (0, [(1, 1)]), (0, [(2, 1)]), (0, [(3, 1)])]), (4, [93, 1], [(0, [(1, 1)]), (0, [(4, 1)]), (0, [(5, 1)])]), (2, [], [(0, [(1, 1)]), (0, [(6, 1)])]), (0, [], [(0, [(4, 1)])]), (0, [], [(-1, [(4, -1), (6, 1)])]), (0, [], [(0, [(2, -1), (4, 1)])]), (0, [], [(-1, [(2, 1), (3, 1), (4, -1)])]), (4, [94, 1], [(0, [(0, 1)]), (0, [(7, 1)]), (0, [(8, 1)])]), (2, [], [(0, [(0, 1)]), (0, [(9, 1)])]), (0, [], [(0, [(7, 1)])]), (0, [], [(-1, [(7, -1), (9, 1)])]), (0, [], [(0, [(4, -256), (7, 1)])]), (0, [], [(-1, [(4, 256), (5, 1), (7, -1)])])], [(0, [], [(0, [(8, 1)])])])
-- fc_a
def q_l161 : SvM := ([(0, none), (0, none), (-1180591620717411303424, none), (-1180591620717411303424, none), (-1180591620717411303424, none), (-1180591620717411303424, none), (-1180591620717411303424, none)], [(47, [], [(0, [(0, 1)]), (0, [(1, 1)]), (0, [(2, 1)]), (0, [(3, 1)])]), (4, [93, 1], [(0, [(1, 1)]), (0, [(4, 1)]), (0, [(5, 1)])]), (2, [], [(0, [(1, 1)]), (0, [(6, 1)])]), (0, [], [(0, [(4, 1)])]), (0, [], [(-1, [(4, -1), (6, 1)])]), (0, [], [(0, [(2, 1), (3, 1), (4, -1)])]), (0, [], [(0, [(2, -1), (3, -1), (4, 1)])]), (48, [], [(0, [(0, 1)]), (0, [(4, 256)]), (0, [(4, 256), (5, 1)]), (0, [])])], [(47, [], [(0, [(0, 1)]), (0, [(1, 1)]), (0, [(2, 1)]), (1, [(3, 1)])])])
-- wf_el
def q_l162 : SvM := ([(0, none), (-1180591620717411303424, none), (-1180591620717411303424, none), (-1180591620717411303424, none), (-1180591620717411303424, none), (-1180591620717411303424, none), (-1180591620717411303424, none), (-1180591620717411303424, none)], [(49, [], [(0, [(0, 1)]), (0, [(1, 1)]), (0, [(2, 1)]), (0, [(3, 1)]), (0, [(4, 1)])]), (4, [99, 1], [(0, [(0, 1)]), (0, [(5, 1)]), (0, [(6, 1)])]), (2, [], [(0, [(0, 1)]), (0, [(7, 1)])]), (0, [], [(0, [(1, -1), (5, 1)])]), (0, [], [(-1, [(2, 1), (5, -1)])]), (0, [], [(0, [(5, 1)])]), (0, [], [(-1, [(5, -1), (7, 1)])])], [(0, [], [(0, [(3, -1), (6, 1)])]), (0, [], [(0, [(4, 1), (6, -1)])])])
theorem q_l162_ok : ∀ (g : Int → Int → Int) (ln : Int → Int) (kf : Int → Nat) (ρ : List Int), sv_BOk ρ q_l162.1 → (∀ f ∈ q_l162.2.1, sv_FQk q_Ks q_Q g ln kf ρ f) → ∀ f ∈ q_l162.2.2, sv_FQk q_Ks q_Q g ln kf ρ f := by
  intro g ln kf ρ hb hf
  obtain ⟨hl, hb⟩ := hb
  obtain ⟨xa, r0, rfl, l0⟩ := sv_lens hl
  obtain ⟨xlo, r1, rfl, l1⟩ := sv_lens l0
  obtain ⟨xhi, r2, rfl, l2⟩ := sv_lens l1
  obtain ⟨xl, r3, rfl, l3⟩ := sv_lens l2
  obtain ⟨xu, r4, rfl, l4⟩ := sv_lens l3
  obtain ⟨xi, r5, rfl, l5⟩ := sv_lens l4
  obtain ⟨xx, r6, rfl, l6⟩ := sv_lens l5
  obtain ⟨xN, r7, rfl, l7⟩ := sv_lens l6
  obtain rfl := sv_len0 l7
  clear l0 l1 l2 l3 l4 l5 l6 l7 hl
  have ba : 0 ≤ xa := (hb 0 _ _ rfl rfl).1
  clear hb
  have h0 := hf _ (List.mem_of_getElem? (i := 0) rfl)
  simp [sv_FQk, sv_FQ, sv_evs, sv_ev, sv_evT, sv_nth, sv_adq, sv_gs, q_Ks, q_Q] at h0
  have h1 := hf _ (List.mem_of_getElem? (i := 1) rfl)
  simp [sv_FQk, sv_FQ, sv_evs, sv_ev, sv_evT, sv_nth, sv_adq, sv_gs, q_Ks, q_Q] at h1
  have h2 := hf _ (List.mem_of_getElem? (i := 2) rfl)
  simp [sv_FQk, sv_FQ, sv_evs, sv_ev, sv_evT, sv_nth, sv_adq, sv_gs, q_Ks, q_Q] at h2
  have h3 := hf _ (List.mem_of_getElem? (i := 3) rfl)
  simp [sv_FQk, sv_FQ, sv_evs, sv_ev, sv_evT, sv_nth, sv_adq, sv_gs, q_Ks, q_Q] at h3
  have h4 := hf _ (List.mem_of_getElem? (i := 4) rfl)
  simp [sv_FQk, sv_FQ, sv_evs, sv_ev, sv_evT, sv_nth, sv_adq, sv_gs, q_Ks, q_Q] at h4
  have h5 := hf _ (List.mem_of_getElem? (i := 5) rfl)
  simp [sv_FQk, sv_FQ, sv_evs, sv_ev, sv_evT, sv_nth, sv_adq, sv_gs, q_Ks, q_Q] at h5
  have h6 := hf _ (List.mem_of_getElem? (i := 6) rfl)
  simp [sv_FQk, sv_FQ, sv_evs, sv_ev, sv_evT, sv_nth, sv_adq, sv_gs, q_Ks, q_Q] at h6
  clear hf
  obtain ⟨⟨-, ka⟩, h0⟩ := h0
  rw [sv_Qlin_iff] at h0
  replace h1 := h1 ba (by omega) (by have := h2 ba; omega)
  intro f hf
  have hf : f ∈ [(0, [], [(0, [(3, -1), (6, 1)])]), (0, [], [(0, [(4, 1), (6, -1)])])] := hf
  simp only [List.mem_cons, List.not_mem_nil, or_false] at hf
  rcases hf with rfl | rfl
  · simp [sv_FQk, sv_FQ, sv_evs, sv_ev, sv_evT, sv_nth, sv_adq, sv_gs, q_Ks, q_Q]
    have q := h0 xi (by omega) (by omega)
    rw [h1] at q
    omega
  · simp [sv_FQk, sv_FQ, sv_evs, sv_ev, sv_evT, sv_nth, sv_adq, sv_gs, q_Ks, q_Q]
    have q := h0 xi (by omega) (by omega)
    rw [h1] at q
    omega
-- wf_0
def q_l163 : SvM := ([(0, none), (-1180591620717411303424, none), (-1180591620717411303424, none), (-1180591620717411303424, none), (-1180591620717411303424, none)], [(1, [99], [(0, [(0, 1)])]), (0, [], [(0, [(1, 1), (2, -1)])])], [(49, [], [(0, [(0, 1)]), (0, [(1, 1)]), (0, [(2, 1)]), (0, [(3, 1)]), (0, [(4, 1)])])])
theorem q_l163_ok : ∀ (g : Int → Int → Int) (ln : Int → Int) (kf : Int → Nat) (ρ : List Int), sv_BOk ρ q_l163.1 → (∀ f ∈ q_l163.2.1, sv_FQk q_Ks q_Q g ln kf ρ f) → ∀ f ∈ q_l163.2.2, sv_FQk q_Ks q_Q g ln kf ρ f := by
  intro g ln kf ρ hb hf
  obtain ⟨hl, hb⟩ := hb
  obtain ⟨xa, r0, rfl, l0⟩ := sv_lens hl
  obtain ⟨xlo, r1, rfl, l1⟩ := sv_lens l0
  obtain ⟨xhi, r2, rfl, l2⟩ := sv_lens l1
  obtain ⟨xl, r3, rfl, l3⟩ := sv_lens l2
  obtain ⟨xu, r4, rfl, l4⟩ := sv_lens l3
  obtain rfl := sv_len0 l4
  clear l0 l1 l2 l3 l4 hl
  have ba : 0 ≤ xa := (hb 0 _ _ rfl rfl).1
  clear hb
  have h0 := hf _ (List.mem_of_getElem? (i := 0) rfl)
  simp [sv_FQk, sv_FQ, sv_evs, sv_ev, sv_evT, sv_nth, sv_adq, sv_gs, q_Ks, q_Q] at h0
  have h1 := hf _ (List.mem_of_getElem? (i := 1) rfl)
  simp [sv_FQk, sv_FQ, sv_evs, sv_ev, sv_evT, sv_nth, sv_adq, sv_gs, q_Ks, q_Q] at h1
  clear hf
  have ka : kf xa = 99 := by omega
  intro f hf
  have hf : f ∈ [(49, [], [(0, [(0, 1)]), (0, [(1, 1)]), (0, [(2, 1)]), (0, [(3, 1)]), (0, [(4, 1)])])] := hf
  simp only [List.mem_cons, List.not_mem_nil, or_false] at hf
  subst hf
  · simp [sv_FQk, sv_FQ, sv_evs, sv_ev, sv_evT, sv_nth, sv_adq, sv_gs, q_Ks, q_Q]
    refine ⟨⟨ba, ka⟩, ?_⟩
    rw [sv_Qlin_iff]
    intro j j1 j2
    omega
-- wf_w
def q_l164 : SvM := ([(0, none), (-1180591620717411303424, none), (-1180591620717411303424, none), (-1180591620717411303424, none), (-1180591620717411303424, none), (-1180591620717411303424, none), (-1180591620717411303424, none), (-1180591620717411303424, none), (-1180591620717411303424, none)], [(49, [], [(0, [(0, 1)]), (0, [(1, 1)]), (0, [(2, 1)]), (0, [(3, 1)]), (0, [(4, 1)])]), (0, [], [(0, [(1, -1), (5, 1)])]), (0, [], [(0, [(2, 1), (6, -1)])]), (0, [], [(0, [(3, 1), (7, -1)])]), (0, [], [(0, [(4, -1), (8, 1)])])], [(49, [], [(0, [(0, 1)]), (0, [(5, 1)]), (0, [(6, 1)]), (0, [(7, 1)]), (0, [(8, 1)])])])
theorem q_l164_ok : ∀ (g : Int → Int → Int) (ln : Int → Int) (kf : Int → Nat) (ρ : List Int), sv_BOk ρ q_l164.1 → (∀ f ∈ q_l164.2.1, sv_FQk q_Ks q_Q g ln kf ρ f) → ∀ f ∈ q_l164.2.2, sv_FQk q_Ks q_Q g ln kf ρ f := by
  intro g ln kf ρ hb hf
  obtain ⟨hl, hb⟩ := hb
  obtain ⟨xa, r0, rfl, l0⟩ := sv_lens hl
  obtain ⟨xlo, r1, rfl, l1⟩ := sv_lens l0
  obtain ⟨xhi, r2, rfl, l2⟩ := sv_lens l1
  obtain ⟨xl, r3, rfl, l3⟩ := sv_lens l2
  obtain ⟨xu, r4, rfl, l4⟩ := sv_lens l3
  obtain ⟨xlp, r5, rfl, l5⟩ := sv_lens l4
  obtain ⟨xhp, r6, rfl, l6⟩ := sv_lens l5
  obtain ⟨xkp, r7, rfl, l7⟩ := sv_lens l6
  obtain ⟨xup, r8, rfl, l8⟩ := sv_lens l7
  obtain rfl := sv_len0 l8
  clear l0 l1 l2 l3 l4 l5 l6 l7 l8 hl
  have ba : 0 ≤ xa := (hb 0 _ _ rfl rfl).1
  clear hb
  have h0 := hf _ (List.mem_of_getElem? (i := 0) rfl)
  simp [sv_FQk, sv_FQ, sv_evs, sv_ev, sv_evT, sv_nth, sv_adq, sv_gs, q_Ks, q_Q] at h0
  have h1 := hf _ (List.mem_of_getElem? (i := 1) rfl)
  simp [sv_FQk, sv_FQ, sv_evs, sv_ev, sv_evT, sv_nth, sv_adq, sv_gs, q_Ks, q_Q] at h1
  have h2 := hf _ (List.mem_of_getElem? (i := 2) rfl)
  simp [sv_FQk, sv_FQ, sv_evs, sv_ev, sv_evT, sv_nth, sv_adq, sv_gs, q_Ks, q_Q] at h2
  have h3 := hf _ (List.mem_of_getElem? (i := 3) rfl)
  simp [sv_FQk, sv_FQ, sv_evs, sv_ev, sv_evT, sv_nth, sv_adq, sv_gs, q_Ks, q_Q] at h3
  have h4 := hf _ (List.mem_of_getElem? (i := 4) rfl)
  simp [sv_FQk, sv_FQ, sv_evs, sv_ev, sv_evT, sv_nth, sv_adq, sv_gs, q_Ks, q_Q] at h4
  clear hf
  obtain ⟨⟨-, ka⟩, h0⟩ := h0
  rw [sv_Qlin_iff] at h0
  intro f hf
  have hf : f ∈ [(49, [], [(0, [(0, 1)]), (0, [(5, 1)]), (0, [(6, 1)]), (0, [(7, 1)]), (0, [(8, 1)])])] := hf
  simp only [List.mem_cons, List.not_mem_nil, or_false] at hf
  subst hf
  · simp [sv_FQk, sv_FQ, sv_evs, sv_ev, sv_evT, sv_nth, sv_adq, sv_gs, q_Ks, q_Q]
    refine ⟨⟨ba, ka⟩, ?_⟩
    rw [sv_Qlin_iff]
    intro j j1 j2
    have q := h0 j (by omega) (by omega)
    omega
-- wf_j
def q_l165 : SvM := ([(0, none), (-1180591620717411303424, none), (-1180591620717411303424, none), (-1180591620717411303424, none), (-1180591620717411303424, none), (-1180591620717411303424, none)], [(49, [], [(0, [(0, 1)]), (0, [(1, 1)]), (0, [(2, 1)]), (0, [(4, 1)]), (0, [(5, 1)])]), (49, [], [(0, [(0, 1)]), (0, [(2, 1)]), (0, [(3, 1)]), (0, [(4, 1)]), (0, [(5, 1)])])], [(49, [], [(0, [(0, 1)]), (0, [(1, 1)]), (0, [(3, 1)]), (0, [(4, 1)]), (0, [(5, 1)])])])
theorem q_l165_ok : ∀ (g : Int → Int → Int) (ln : Int → Int) (kf : Int → Nat) (ρ : List Int), sv_BOk ρ q_l165.1 → (∀ f ∈ q_l165.2.1, sv_FQk q_Ks q_Q g ln kf ρ f) → ∀ f ∈ q_l165.2.2, sv_FQk q_Ks q_Q g ln kf ρ f := by
  intro g ln kf ρ hb hf
  obtain ⟨hl, hb⟩ := hb
  obtain ⟨xa, r0, rfl, l0⟩ := sv_lens hl
  obtain ⟨xlo, r1, rfl, l1⟩ := sv_lens l0
  obtain ⟨xmi, r2, rfl, l2⟩ := sv_lens l1
  obtain ⟨xhi, r3, rfl, l3⟩ := sv_lens l2
  obtain ⟨xl, r4, rfl, l4⟩ := sv_lens l3
  obtain ⟨xu, r5, rfl, l5⟩ := sv_lens l4
  obtain rfl := sv_len0 l5
  clear l0 l1 l2 l3 l4 l5 hl
  have ba : 0 ≤ xa := (hb 0 _ _ rfl rfl).1
  clear hb
  have h0 := hf _ (List.mem_of_getElem? (i := 0) rfl)
  simp [sv_FQk, sv_FQ, sv_evs, sv_ev, sv_evT, sv_nth, sv_adq, sv_gs, q_Ks, q_Q] at h0
  have h1 := hf _ (List.mem_of_getElem? (i := 1) rfl)
  simp [sv_FQk, sv_FQ, sv_evs, sv_ev, sv_evT, sv_nth, sv_adq, sv_gs, q_Ks, q_Q] at h1
  clear hf
  obtain ⟨⟨-, ka⟩, h0⟩ := h0
  rw [sv_Qlin_iff] at h0
  obtain ⟨⟨-, ka⟩, h1⟩ := h1
  rw [sv_Qlin_iff] at h1
  intro f hf
  have hf : f ∈ [(49, [], [(0, [(0, 1)]), (0, [(1, 1)]), (0, [(3, 1)]), (0, [(4, 1)]), (0, [(5, 1)])])] := hf
  simp only [List.mem_cons, List.not_mem_nil, or_false] at hf
  subst hf
  · simp [sv_FQk, sv_FQ, sv_evs, sv_ev, sv_evT, sv_nth, sv_adq, sv_gs, q_Ks, q_Q]
    refine ⟨⟨ba, ka⟩, ?_⟩
    rw [sv_Qlin_iff]
    intro j j1 j2
    by_cases e : j < xmi
    · exact h0 j j1 e
    · exact h1 j (by omega) j2
-- wf_app
def q_l166 : SvM := ([(0, none), (-1180591620717411303424, none), (-1180591620717411303424, none), (-1180591620717411303424, none), (-1180591620717411303424, none), (-1180591620717411303424, none), (-1180591620717411303424, none)], [(49, [], [(0, [(0, 1)]), (0, [(1, 1)]), (0, [(2, 1)]), (0, [(3, 1)]), (0, [(4, 1)])]), (4, [99, 1], [(0, [(0, 1)]), (0, [(2, 1)]), (0, [(5, 1)])]), (2, [], [(0, [(0, 1)]), (0, [(6, 1)])]), (0, [], [(0, [(2, 1)])]), (0, [], [(-1, [(2, -1), (6, 1)])]), (0, [], [(0, [(3, -1), (5, 1)])]), (0, [], [(0, [(4, 1), (5, -1)])])], [(49, [], [(0, [(0, 1)]), (0, [(1, 1)]), (1, [(2, 1)]), (0, [(3, 1)]), (0, [(4, 1)])])])
theorem q_l166_ok : ∀ (g : Int → Int → Int) (ln : Int → Int) (kf : Int → Nat) (ρ : List Int), sv_BOk ρ q_l166.1 → (∀ f ∈ q_l166.2.1, sv_FQk q_Ks q_Q g ln kf ρ f) → ∀ f ∈ q_l166.2.2, sv_FQk q_Ks q_Q g ln kf ρ f := by
  intro g ln kf ρ hb hf
  obtain ⟨hl, hb⟩ := hb
  obtain ⟨xa, r0, rfl, l0⟩ := sv_lens hl
  obtain ⟨xlo, r1, rfl, l1⟩ := sv_lens l0
  obtain ⟨xhi, r2, rfl, l2⟩ := sv_lens l1
  obtain ⟨xl, r3, rfl, l3⟩ := sv_lens l2
  obtain ⟨xu, r4, rfl, l4⟩ := sv_lens l3
  obtain ⟨xx, r5, rfl, l5⟩ := sv_lens l4
  obtain ⟨xN, r6, rfl, l6⟩ := sv_lens l5
  obtain rfl := sv_len0 l6
  clear l0 l1 l2 l3 l4 l5 l6 hl
  have ba : 0 ≤ xa := (hb 0 _ _ rfl rfl).1
  clear hb
  have h0 := hf _ (List.mem_of_getElem? (i := 0) rfl)
  simp [sv_FQk, sv_FQ, sv_evs, sv_ev, sv_evT, sv_nth, sv_adq, sv_gs, q_Ks, q_Q] at h0
  have h1 := hf _ (List.mem_of_getElem? (i := 1) rfl)
  simp [sv_FQk, sv_FQ, sv_evs, sv_ev, sv_evT, sv_nth, sv_adq, sv_gs, q_Ks, q_Q] at h1
  have h2 := hf _ (List.mem_of_getElem? (i := 2) rfl)
  simp [sv_FQk, sv_FQ, sv_evs, sv_ev, sv_evT, sv_nth, sv_adq, sv_gs, q_Ks, q_Q] at h2
  have h3 := hf _ (List.mem_of_getElem? (i := 3) rfl)
  simp [sv_FQk, sv_FQ, sv_evs, sv_ev, sv_evT, sv_nth, sv_adq, sv_gs, q_Ks, q_Q] at h3
  have h4 := hf _ (List.mem_of_getElem? (i := 4) rfl)
  simp [sv_FQk, sv_FQ, sv_evs, sv_ev, sv_evT, sv_nth, sv_adq, sv_gs, q_Ks, q_Q] at h4
  have h5 := hf _ (List.mem_of_getElem? (i := 5) rfl)
  simp [sv_FQk, sv_FQ, sv_evs, sv_ev, sv_evT, sv_nth, sv_adq, sv_gs, q_Ks, q_Q] at h5
  have h6 := hf _ (List.mem_of_getElem? (i := 6) rfl)
  simp [sv_FQk, sv_FQ, sv_evs, sv_ev, sv_evT, sv_nth, sv_adq, sv_gs, q_Ks, q_Q] at h6
  clear hf
  obtain ⟨⟨-, ka⟩, h0⟩ := h0
  rw [sv_Qlin_iff] at h0
  replace h1 := h1 ba (by omega) (by have := h2 ba; omega)
  intro f hf
  have hf : f ∈ [(49, [], [(0, [(0, 1)]), (0, [(1, 1)]), (1, [(2, 1)]), (0, [(3, 1)]), (0, [(4, 1)])])] := hf
  simp only [List.mem_cons, List.not_mem_nil, or_false] at hf
  subst hf
  · simp [sv_FQk, sv_FQ, sv_evs, sv_ev, sv_evT, sv_nth, sv_adq, sv_gs, q_Ks, q_Q]
    refine ⟨⟨ba, ka⟩, ?_⟩
    rw [sv_Qlin_iff]
    intro j j1 j2
    by_cases e : j = xhi
    · subst e
      rw [h1]
      omega
    · exact h0 j j1 (by omega)
-- wf_aw
def q_l167 : SvM := ([(0, none), (-1180591620717411303424, none), (-1180591620717411303424, none), (-1180591620717411303424, none), (-1180591620717411303424, none), (-1180591620717411303424, none), (-1180591620717411303424, none), (-1180591620717411303424, none)], [(49, [], [(0, [(0, 1)]), (0, [(1, 1)]), (0, [(2, 1)]), (0, [(3, 1)]), (0, [(4, 1)])]), (4, [99, 1], [(0, [(0, 1)]), (0, [(2, 1)]), (0, [(5, 1)])]), (2, [], [(0, [(0, 1)]), (0, [(6, 1)])]), (0, [], [(0, [(2, 1)])]), (0, [], [(-1, [(2, -1), (6, 1)])]), (0, [], [(0, [(4, -1), (7, 1)])]), (0, [], [(0, [(3, -1), (5, 1)])]), (0, [], [(0, [(5, -1), (7, 1)])])], [(49, [], [(0, [(0, 1)]), (0, [(1, 1)]), (1, [(2, 1)]), (0, [(3, 1)]), (0, [(7, 1)])])])
theorem q_l167_ok : ∀ (g : Int → Int → Int) (ln : Int → Int) (kf : Int → Nat) (ρ : List Int), sv_BOk ρ q_l167.1 → (∀ f ∈ q_l167.2.1, sv_FQk q_Ks q_Q g ln kf ρ f) → ∀ f ∈ q_l167.2.2, sv_FQk q_Ks q_Q g ln kf ρ f := by
  intro g ln kf ρ hb hf
  obtain ⟨hl, hb⟩ := hb
  obtain ⟨xa, r0, rfl, l0⟩ := sv_lens hl
  obtain ⟨xlo, r1, rfl, l1⟩ := sv_lens l0
  obtain ⟨xhi, r2, rfl, l2⟩ := sv_lens l1
  obtain ⟨xl, r3, rfl, l3⟩ := sv_lens l2
  obtain ⟨xu, r4, rfl, l4⟩ := sv_lens l3
  obtain ⟨xx, r5, rfl, l5⟩ := sv_lens l4
  obtain ⟨xN, r6, rfl, l6⟩ := sv_lens l5
  obtain ⟨xup, r7, rfl, l7⟩ := sv_lens l6
  obtain rfl := sv_len0 l7
  clear l0 l1 l2 l3 l4 l5 l6 l7 hl
  have ba : 0 ≤ xa := (hb 0 _ _ rfl rfl).1
  clear hb
  have h0 := hf _ (List.mem_of_getElem? (i := 0) rfl)
  simp [sv_FQk, sv_FQ, sv_evs, sv_ev, sv_evT, sv_nth, sv_adq, sv_gs, q_Ks, q_Q] at h0
  have h1 := hf _ (List.mem_of_getElem? (i := 1) rfl)
  simp [sv_FQk, sv_FQ, sv_evs, sv_ev, sv_evT, sv_nth, sv_adq, sv_gs, q_Ks, q_Q] at h1
  have h2 := hf _ (List.mem_of_getElem? (i := 2) rfl)
  simp [sv_FQk, sv_FQ, sv_evs, sv_ev, sv_evT, sv_nth, sv_adq, sv_gs, q_Ks, q_Q] at h2
  have h3 := hf _ (List.mem_of_getElem? (i := 3) rfl)
  simp [sv_FQk, sv_FQ, sv_evs, sv_ev, sv_evT, sv_nth, sv_adq, sv_gs, q_Ks, q_Q] at h3
  have h4 := hf _ (List.mem_of_getElem? (i := 4) rfl)
  simp [sv_FQk, sv_FQ, sv_evs, sv_ev, sv_evT, sv_nth, sv_adq, sv_gs, q_Ks, q_Q] at h4
  have h5 := hf _ (List.mem_of_getElem? (i := 5) rfl)
  simp [sv_FQk, sv_FQ, sv_evs, sv_ev, sv_evT, sv_nth, sv_adq, sv_gs, q_Ks, q_Q] at h5
  have h6 := hf _ (List.mem_of_getElem? (i := 6) rfl)
  simp [sv_FQk, sv_FQ, sv_evs, sv_ev, sv_evT, sv_nth, sv_adq, sv_gs, q_Ks, q_Q] at h6
  have h7 := hf _ (List.mem_of_getElem? (i := 7) rfl)
  simp [sv_FQk, sv_FQ, sv_evs, sv_ev, sv_evT, sv_nth, sv_adq, sv_gs, q_Ks, q_Q] at h7
  clear hf
  obtain ⟨⟨-, ka⟩, h0⟩ := h0
  rw [sv_Qlin_iff] at h0
  replace h1 := h1 ba (by omega) (by have := h2 ba; omega)
  intro f hf
  have hf : f ∈ [(49, [], [(0, [(0, 1)]), (0, [(1, 1)]), (1, [(2, 1)]), (0, [(3, 1)]), (0, [(7, 1)])])] := hf
  simp only [List.mem_cons, List.not_mem_nil, or_false] at hf
  subst hf
  · simp [sv_FQk, sv_FQ, sv_evs, sv_ev, sv_evT, sv_nth, sv_adq, sv_gs, q_Ks, q_Q]
    refine ⟨⟨ba, ka⟩, ?_⟩
    rw [sv_Qlin_iff]
    intro j j1 j2
    by_cases e : j = xhi
    · subst e
      rw [h1]
      omega
    · have q := h0 j j1 (by omega)
      omega
-- cp_0
def q_l168 : SvM := ([(0, none), (0, none), (0, none), (-1180591620717411303424, none), (-1180591620717411303424, none), (-1180591620717411303424, none), (-1180591620717411303424, none)], [(1, [99], [(0, [(0, 1)])]), (1, [100], [(0, [(1, 1)])]), (1, [93], [(0, [(2, 1)])]), (0, [], [(0, [(4, -1)])]), (0, [], [(0, [(6, 1)])])], [(50, [], [(0, [(0, 1)]), (0, [(1, 1)]), (0, [(2, 1)]), (0, [(3, 1)]), (0, [(4, 1)]), (0, [(5, 1)]), (0, [(6, 1)])])])
-- cp_n
def q_l169 : SvM := ([(0, none), (0, none), (0, none), (-1180591620717411303424, none), (-1180591620717411303424, none), (-1180591620717411303424, none), (-1180591620717411303424, none)], [(50, [], [(0, [(0, 1)]), (0, [(1, 1)]), (0, [(2, 1)]), (0, [(3, 1)]), (0, [(4, 1)]), (0, [(5, 1)]), (0, [(6, 1)])])], [(0, [], [(0, [(6, 1)])])])
-- cp_p
def q_l170 : SvM := ([(0, none), (0, none), (0, none), (-1180591620717411303424, none), (-1180591620717411303424, none), (-1180591620717411303424, none), (-1180591620717411303424, none)], [(50, [], [(0, [(0, 1)]), (0, [(1, 1)]), (0, [(2, 1)]), (0, [(3, 1)]), (1, [(4, 1)]), (0, [(5, 1)]), (0, [(6, 1)])]), (0, [], [(0, [(4, 1)])])], [(50, [], [(0, [(0, 1)]), (0, [(1, 1)]), (0, [(2, 1)]), (0, [(3, 1)]), (0, [(4, 1)]), (0, [(5, 1)]), (0, [(6, 1)])])])
-- cp_a1
def q_l171 : SvM := ([(0, none), (0, none), (0, none), (-1180591620717411303424, none), (-1180591620717411303424, none), (-1180591620717411303424, none), (-1180591620717411303424, none), (-1180591620717411303424, none), (-1180591620717411303424, none), (-1180591620717411303424, none), (-1180591620717411303424, none)], [(50, [], [(0, [(0, 1)]), (0, [(1, 1)]), (0, [(2, 1)]), (0, [(3, 1)]), (0, [(4, 1)]), (0, [(5, 1)]), (0, [(6, 1)])]), (4, [99, 1], [(0, [(0, 1)]), (0, [(4, 1)]), (0, [(7, 1)])]), (2, [], [(0, [(0, 1)]), (0, [(8, 1)])]), (0, [], [(0, [(4, 1)])]), (0, [], [(-1, [(4, -1), (8, 1)])]), (4, [100, 1], [(0, [(1, 1)]), (0, [(4, 1)]), (0, [(9, 1)])]), (2, [], [(0, [(1, 1)]), (0, [(10, 1)])]), (0, [], [(-1, [(4, -1), (10, 1)])]), (0, [], [(0, [(9, -1)])]), (0, [], [(0, [(9, 1)])]), (0, [], [(-1, [(7, -1)])]), (0, [], [(0, [(5, 1)])])], [(50, [], [(0, [(0, 1)]), (0, [(1, 1)]), (0, [(2, 1)]), (0, [(3, 1)]), (1, [(4, 1)]), (0, [(5, 1)]), (0, [(5, 1), (6, 1)])])])
-- cp_a2
def q_l172 : SvM := ([(0, none), (0, none), (0, none), (-1180591620717411303424, none), (-1180591620717411303424, none), (-1180591620717411303424, none), (-1180591620717411303424, none), (-1180591620717411303424, none), (-1180591620717411303424, none), (-1180591620717411303424, none), (-1180591620717411303424, none), (-1180591620717411303424, none), (-1180591620717411303424, none)], [(50, [], [(0, [(0, 1)]), (0, [(1, 1)]), (0, [(2, 1)]), (0, [(3, 1)]), (0, [(4, 1)]), (0, [(5, 1)]), (0, [(6, 1)])]), (4, [99, 1], [(0, [(0, 1)]), (0, [(4, 1)]), (0, [(7, 1)])]), (2, [], [(0, [(0, 1)]), (0, [(8, 1)])]), (0, [], [(0, [(4, 1)])]), (0, [], [(-1, [(4, -1), (8, 1)])]), (4, [100, 1], [(0, [(1, 1)]), (0, [(4, 1)]), (0, [(9, 1)])]), (2, [], [(0, [(1, 1)]), (0, [(10, 1)])]), (0, [], [(-1, [(4, -1), (10, 1)])]), (0, [], [(0, [(9, -1)])]), (0, [], [(0, [(9, 1)])]), (0, [], [(0, [(7, 1)])]), (4, [93, 1], [(0, [(2, 1)]), (0, [(3, 1), (7, 1)]), (0, [(11, 1)])]), (2, [], [(0, [(2, 1)]), (0, [(12, 1)])]), (0, [], [(0, [(3, 1)])]), (0, [], [(-1, [(3, -1), (7, -1), (12, 1)])]), (0, [], [(0, [(11, 1)])])], [(50, [], [(0, [(0, 1)]), (0, [(1, 1)]), (0, [(2, 1)]), (0, [(3, 1)]), (1, [(4, 1)]), (0, [(5, 1)]), (0, [(6, 1), (11, 2)])])])
-- wk_e
def q_l173 : SvM := ([(0, none), (-1180591620717411303424, none), (-1180591620717411303424, none), (-1180591620717411303424, none)], [(45, [], [(0, [(0, 1)]), (0, [(1, 1)]), (0, [(2, 1)])]), (0, [], [(0, [(1, -1), (3, 1)])]), (0, [], [(0, [(1, 1), (3, -1)])])], [(45, [], [(0, [(0, 1)]), (0, [(3, 1)]), (0, [(2, 1)])])])
theorem q_l173_ok : ∀ (g : Int → Int → Int) (ln : Int → Int) (kf : Int → Nat) (ρ : List Int), sv_BOk ρ q_l173.1 → (∀ f ∈ q_l173.2.1, sv_FQk q_Ks q_Q g ln kf ρ f) → ∀ f ∈ q_l173.2.2, sv_FQk q_Ks q_Q g ln kf ρ f := by
  intro g ln kf ρ hb hf
  obtain ⟨hl, hb⟩ := hb
  obtain ⟨xa, r0, rfl, l0⟩ := sv_lens hl
  obtain ⟨xs, r1, rfl, l1⟩ := sv_lens l0
  obtain ⟨xp, r2, rfl, l2⟩ := sv_lens l1
  obtain ⟨xn, r3, rfl, l3⟩ := sv_lens l2
  obtain rfl := sv_len0 l3
  clear l0 l1 l2 l3 hl
  have ba : 0 ≤ xa := (hb 0 _ _ rfl rfl).1
  clear hb
  have h0 := hf _ (List.mem_of_getElem? (i := 0) rfl)
  simp [sv_FQk, sv_FQ, sv_evs, sv_ev, sv_evT, sv_nth, sv_adq, sv_gs, q_Ks, q_Q] at h0
  have h1 := hf _ (List.mem_of_getElem? (i := 1) rfl)
  simp [sv_FQk, sv_FQ, sv_evs, sv_ev, sv_evT, sv_nth, sv_adq, sv_gs, q_Ks, q_Q] at h1
  have h2 := hf _ (List.mem_of_getElem? (i := 2) rfl)
  simp [sv_FQk, sv_FQ, sv_evs, sv_ev, sv_evT, sv_nth, sv_adq, sv_gs, q_Ks, q_Q] at h2
  clear hf
  obtain ⟨⟨-, ka⟩, h0⟩ := h0
  rw [sv_Qwk_iff] at h0
  intro f hf
  have hf : f ∈ [(45, [], [(0, [(0, 1)]), (0, [(3, 1)]), (0, [(2, 1)])])] := hf
  simp only [List.mem_cons, List.not_mem_nil, or_false] at hf
  subst hf
  · simp [sv_FQk, sv_FQ, sv_evs, sv_ev, sv_evT, sv_nth, sv_adq, sv_gs, q_Ks, q_Q]
    refine ⟨⟨ba, ka⟩, ?_⟩
    rw [sv_Qwk_iff]
    have e : xn = xs := by omega
    rw [e]
    exact h0
-- cn_d
def q_l174 : SvM := ([(0, none), (-1180591620717411303424, none), (-1180591620717411303424, none), (-1180591620717411303424, none), (-1180591620717411303424, none)], [(4, [84, 1], [(0, [(0, 1)]), (0, [(1, 1)]), (0, [(3, 1)])]), (2, [], [(0, [(0, 1)]), (0, [(4, 1)])]), (0, [], [(0, [(1, 1)])]), (0, [], [(-1, [(1, -1), (4, 1)])]), (0, [], [(-1, [(2, -1), (3, 1)])])], [(51, [], [(0, [(0, 1)]), (0, [(1, 1)]), (0, [(2, 1)])])])
theorem q_l174_ok : ∀ (g : Int → Int → Int) (ln : Int → Int) (kf : Int → Nat) (ρ : List Int), sv_BOk ρ q_l174.1 → (∀ f ∈ q_l174.2.1, sv_FQk q_Ks q_Q g ln kf ρ f) → ∀ f ∈ q_l174.2.2, sv_FQk q_Ks q_Q g ln kf ρ f := by
  intro g ln kf ρ hb hf
  obtain ⟨hl, hb⟩ := hb
  obtain ⟨xa, r0, rfl, l0⟩ := sv_lens hl
  obtain ⟨xi, r1, rfl, l1⟩ := sv_lens l0
  obtain ⟨xk, r2, rfl, l2⟩ := sv_lens l1
  obtain ⟨xe, r3, rfl, l3⟩ := sv_lens l2
  obtain ⟨xN, r4, rfl, l4⟩ := sv_lens l3
  obtain rfl := sv_len0 l4
  clear l0 l1 l2 l3 l4 hl
  have ba : 0 ≤ xa := (hb 0 _ _ rfl rfl).1
  clear hb
  have h0 := hf _ (List.mem_of_getElem? (i := 0) rfl)
  simp [sv_FQk, sv_FQ, sv_evs, sv_ev, sv_evT, sv_nth, sv_adq, sv_gs, q_Ks, q_Q] at h0
  have h1 := hf _ (List.mem_of_getElem? (i := 1) rfl)
  simp [sv_FQk, sv_FQ, sv_evs, sv_ev, sv_evT, sv_nth, sv_adq, sv_gs, q_Ks, q_Q] at h1
  have h2 := hf _ (List.mem_of_getElem? (i := 2) rfl)
  simp [sv_FQk, sv_FQ, sv_evs, sv_ev, sv_evT, sv_nth, sv_adq, sv_gs, q_Ks, q_Q] at h2
  have h3 := hf _ (List.mem_of_getElem? (i := 3) rfl)
  simp [sv_FQk, sv_FQ, sv_evs, sv_ev, sv_evT, sv_nth, sv_adq, sv_gs, q_Ks, q_Q] at h3
  have h4 := hf _ (List.mem_of_getElem? (i := 4) rfl)
  simp [sv_FQk, sv_FQ, sv_evs, sv_ev, sv_evT, sv_nth, sv_adq, sv_gs, q_Ks, q_Q] at h4
  clear hf
  replace h0 := h0 ba (by omega) (by have := h1 ba; omega)
  intro f hf
  have hf : f ∈ [(51, [], [(0, [(0, 1)]), (0, [(1, 1)]), (0, [(2, 1)])])] := hf
  simp only [List.mem_cons, List.not_mem_nil, or_false] at hf
  subst hf
  · simp [sv_FQk, sv_FQ, sv_evs, sv_ev, sv_evT, sv_nth, sv_adq, sv_gs, q_Ks, q_Q]
    refine ⟨⟨ba, ka⟩, ?_⟩
    rw [sv_Qcn_iff]
    omega
-- cn_e
def q_l175 : SvM := ([(0, none), (-1180591620717411303424, none), (-1180591620717411303424, none), (-1180591620717411303424, none), (-1180591620717411303424, none)], [(51, [], [(0, [(0, 1)]), (0, [(1, 1)]), (0, [(2, 1)])]), (4, [84, 1], [(0, [(0, 1)]), (0, [(1, 1)]), (0, [(3, 1)])]), (2, [], [(0, [(0, 1)]), (0, [(4, 1)])]), (0, [], [(0, [(1, 1)])]), (0, [], [(-1, [(1, -1), (4, 1)])])], [(0, [], [(-1, [(2, -1), (3, 1)])])])
theorem q_l175_ok : ∀ (g : Int → Int → Int) (ln : Int → Int) (kf : Int → Nat) (ρ : List Int), sv_BOk ρ q_l175.1 → (∀ f ∈ q_l175.2.1, sv_FQk q_Ks q_Q g ln kf ρ f) → ∀ f ∈ q_l175.2.2, sv_FQk q_Ks q_Q g ln kf ρ f := by
  intro g ln kf ρ hb hf
  obtain ⟨hl, hb⟩ := hb
  obtain ⟨xa, r0, rfl, l0⟩ := sv_lens hl
  obtain ⟨xi, r1, rfl, l1⟩ := sv_lens l0
  obtain ⟨xk, r2, rfl, l2⟩ := sv_lens l1
  obtain ⟨xe, r3, rfl, l3⟩ := sv_lens l2
  obtain ⟨xN, r4, rfl, l4⟩ := sv_lens l3
  obtain rfl := sv_len0 l4
  clear l0 l1 l2 l3 l4 hl
  have ba : 0 ≤ xa := (hb 0 _ _ rfl rfl).1
  clear hb
  have h0 := hf _ (List.mem_of_getElem? (i := 0) rfl)
  simp [sv_FQk, sv_FQ, sv_evs, sv_ev, sv_evT, sv_nth, sv_adq, sv_gs, q_Ks, q_Q] at h0
  have h1 := hf _ (List.mem_of_getElem? (i := 1) rfl)
  simp [sv_FQk, sv_FQ, sv_evs, sv_ev, sv_evT, sv_nth, sv_adq, sv_gs, q_Ks, q_Q] at h1
  have h2 := hf _ (List.mem_of_getElem? (i := 2) rfl)
  simp [sv_FQk, sv_FQ, sv_evs, sv_ev, sv_evT, sv_nth, sv_adq, sv_gs, q_Ks, q_Q] at h2
  have h3 := hf _ (List.mem_of_getElem? (i := 3) rfl)
  simp [sv_FQk, sv_FQ, sv_evs, sv_ev, sv_evT, sv_nth, sv_adq, sv_gs, q_Ks, q_Q] at h3
  have h4 := hf _ (List.mem_of_getElem? (i := 4) rfl)
  simp [sv_FQk, sv_FQ, sv_evs, sv_ev, sv_evT, sv_nth, sv_adq, sv_gs, q_Ks, q_Q] at h4
  clear hf
  obtain ⟨⟨-, ka⟩, h0⟩ := h0
  rw [sv_Qcn_iff] at h0
  replace h1 := h1 ba (by omega) (by have := h2 ba; omega)
  intro f hf
  have hf : f ∈ [(0, [], [(-1, [(2, -1), (3, 1)])])] := hf
  simp only [List.mem_cons, List.not_mem_nil, or_false] at hf
  subst hf
  · simp [sv_FQk, sv_FQ, sv_evs, sv_ev, sv_evT, sv_nth, sv_adq, sv_gs, q_Ks, q_Q]
    omega
-- src_0
def q_l176 : SvM := ([(0, none), (0, none), (0, none), (0, none), (0, none), (0, none), (0, none), (-1180591620717411303424, none)], [(1, [97], [(0, [(0, 1)])]), (1, [98], [(0, [(1, 1)])]), (1, [84], [(0, [(2, 1)])]), (1, [75], [(0, [(3, 1)])]), (1, [76], [(0, [(4, 1)])]), (1, [77], [(0, [(5, 1)])]), (1, [78], [(0, [(6, 1)])]), (0, [], [(0, [(7, -1)])])], [(52, [], [(0, [(0, 1)]), (0, [(1, 1)]), (0, [(2, 1)]), (0, [(3, 1)]), (0, [(4, 1)]), (0, [(5, 1)]), (0, [(6, 1)]), (0, [(7, 1)])])])
-- src_1
def q_l177 : SvM := ([(0, none), (0, none), (0, none), (0, none), (0, none), (0, none), (0, none), (-1180591620717411303424, none), (-1180591620717411303424, none), (-1180591620717411303424, none), (-1180591620717411303424, none), (-1180591620717411303424, none), (-1180591620717411303424, none), (-1180591620717411303424, none), (-1180591620717411303424, none), (-1180591620717411303424, none), (-1180591620717411303424, none), (-1180591620717411303424, none), (-1180591620717411303424, none), (-1180591620717411303424, none)], [(52, [], [(0, [(0, 1)]), (0, [(1, 1)]), (0, [(2, 1)]), (0, [(3, 1)]), (0, [(4, 1)]), (0, [(5, 1)]), (0, [(6, 1)]), (0, [(7, 1)])]), (4, [97, 1], [(0, [(0, 1)]), (0, [(8, 150), (9, 1)]), (0, [(10, 1)])]), (2, [], [(0, [(0, 1)]), (0, [(11, 1)])]), (0, [], [(-1, [(8, -150), (9, -1), (11, 1)])]), (0, [], [(0, [(8, 1)])]), (0, [], [(-1, [(7, 1), (8, -1)])]), (0, [], [(0, [(9, 1)])]), (0, [], [(149, [(9, -1)])]), (4, [75, 1], [(0, [(3, 1)]), (0, [(8, 1)]), (0, [(12, 1)])]), (2, [], [(0, [(3, 1)]), (0, [(13, 1)])]), (0, [], [(-1, [(8, -1), (13, 1)])]), (4, [76, 1], [(0, [(4, 1)]), (0, [(8, 1)]), (0, [(14, 1)])]), (2, [], [(0, [(4, 1)]), (0, [(15, 1)])]), (0, [], [(-1, [(8, -1), (15, 1)])]), (4, [77, 1], [(0, [(5, 1)]), (0, [(8, 1)]), (0, [(16, 1)])]), (2, [], [(0, [(5, 1)]), (0, [(17, 1)])]), (0, [], [(-1, [(8, -1), (17, 1)])]), (4, [78, 1], [(0, [(6, 1)]), (0, [(8, 1)]), (0, [(18, 1)])]), (2, [], [(0, [(6, 1)]), (0, [(19, 1)])]), (0, [], [(-1, [(8, -1), (19, 1)])]), (0, [], [(-1, [(9, -1), (12, 1), (14, 1), (16, 1), (18, 1)])]), (0, [], [(0, [(10, 1)])])], [(0, [], [(-1, [(9, 1), (10, -1)])])])
-- src_2
def q_l178 : SvM := ([(0, none), (0, none), (0, none), (0, none), (0, none), (0, none), (0, none), (-1180591620717411303424, none), (-1180591620717411303424, none), (-1180591620717411303424, none), (-1180591620717411303424, none), (-1180591620717411303424, none), (-1180591620717411303424, none), (-1180591620717411303424, none), (-1180591620717411303424, none), (-1180591620717411303424, none), (-1180591620717411303424, none), (-1180591620717411303424, none), (-1180591620717411303424, none), (-1180591620717411303424, none), (-1180591620717411303424, none), (-1180591620717411303424, none), (-1180591620717411303424, none)], [(52, [], [(0, [(0, 1)]), (0, [(1, 1)]), (0, [(2, 1)]), (0, [(3, 1)]), (0, [(4, 1)]), (0, [(5, 1)]), (0, [(6, 1)]), (0, [(7, 1)])]), (4, [97, 1], [(0, [(0, 1)]), (0, [(8, 150), (9, 1)]), (0, [(10, 1)])]), (2, [], [(0, [(0, 1)]), (0, [(11, 1)])]), (0, [], [(-1, [(8, -150), (9, -1), (11, 1)])]), (4, [98, 1], [(0, [(1, 1)]), (0, [(8, 150), (9, 1)]), (0, [(12, 1)])]), (2, [], [(0, [(1, 1)]), (0, [(13, 1)])]), (0, [], [(-1, [(8, -150), (9, -1), (13, 1)])]), (51, [], [(0, [(2, 1)]), (0, [(8, 150), (9, 1)]), (0, [(14, 1)])]), (0, [], [(0, [(8, 1)])]), (0, [], [(-1, [(7, 1), (8, -1)])]), (0, [], [(0, [(9, 1)])]), (0, [], [(149, [(9, -1)])]), (4, [75, 1], [(0, [(3, 1)]), (0, [(8, 1)]), (0, [(15, 1)])]), (2, [], [(0, [(3, 1)]), (0, [(16, 1)])]), (0, [], [(-1, [(8, -1), (16, 1)])]), (4, [76, 1], [(0, [(4, 1)]), (0, [(8, 1)]), (0, [(17, 1)])]), (2, [], [(0, [(4, 1)]), (0, [(18, 1)])]), (0, [], [(-1, [(8, -1), (18, 1)])]), (4, [77, 1], [(0, [(5, 1)]), (0, [(8, 1)]), (0, [(19, 1)])]), (2, [], [(0, [(5, 1)]), (0, [(20, 1)])]), (0, [], [(-1, [(8, -1), (20, 1)])]), (4, [78, 1], [(0, [(6, 1)]), (0, [(8, 1)]), (0, [(21, 1)])]), (2, [], [(0, [(6, 1)]), (0, [(22, 1)])]), (0, [], [(-1, [(8, -1), (22, 1)])]), (0, [], [(-1, [(9, -1), (15, 1), (17, 1), (19, 1), (21, 1)])]), (0, [], [(0, [(10, 1)])])], [(0, [], [(0, [(12, 1)])]), (0, [], [(16383, [(12, -1), (14, -1)])]), (51, [], [(0, [(2, 1)]), (0, [(8, 150), (10, 1)]), (0, [(12, 1), (14, 1)])])])
-- sn_0
def q_l179 : SvM := ([(0, none), (0, none), (0, none), (0, none), (0, none), (-1180591620717411303424, none), (-1180591620717411303424, none), (-1180591620717411303424, none), (-1180591620717411303424, none), (-1180591620717411303424, none), (-1180591620717411303424, none), (-1180591620717411303424, none), (-1180591620717411303424, none), (-1180591620717411303424, none)], [(1, [97], [(0, [(0, 1)])]), (4, [75, 1], [(0, [(1, 1)]), (0, [(5, 1)]), (0, [(6, 1)])]), (2, [], [(0, [(1, 1)]), (0, [(7, 1)])]), (0, [], [(-1, [(5, -1), (7, 1)])]), (4, [76, 1], [(0, [(2, 1)]), (0, [(5, 1)]), (0, [(8, 1)])]), (2, [], [(0, [(2, 1)]), (0, [(9, 1)])]), (0, [], [(-1, [(5, -1), (9, 1)])]), (4, [77, 1], [(0, [(3, 1)]), (0, [(5, 1)]), (0, [(10, 1)])]), (2, [], [(0, [(3, 1)]), (0, [(11, 1)])]), (0, [], [(-1, [(5, -1), (11, 1)])]), (4, [78, 1], [(0, [(4, 1)]), (0, [(5, 1)]), (0, [(12, 1)])]), (2, [], [(0, [(4, 1)]), (0, [(13, 1)])]), (0, [], [(-1, [(5, -1), (13, 1)])]), (0, [], [(0, [(5, 1)])]), (0, [], [(0, [(6, -1), (8, -1), (10, -1), (12, -1)])])], [(53, [], [(0, [(0, 1)]), (0, [(1, 1)]), (0, [(2, 1)]), (0, [(3, 1)]), (0, [(4, 1)]), (0, [(5, 1)])])])
