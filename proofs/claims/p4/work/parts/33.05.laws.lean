-- ===== laws of opaque facts =====
-- wk_m4
def q_l150 : SvM := ([(0, none), (-1180591620717411303424, none), (-1180591620717411303424, none), (-1180591620717411303424, none), (-1180591620717411303424, none), (-1180591620717411303424, none), (-1180591620717411303424, none)], [(45, [], [(0, [(0, 1)]), (0, [(1, 1)]), (0, [(2, 1)])]), (45, [], [(0, [(0, 1)]), (0, [(3, 1)]), (0, [(4, 1)])]), (0, [], [(0, [(1, 1)])]), (0, [], [(-1, [(1, -1), (3, 1)])]), (4, [38, 1], [(0, [(0, 1)]), (0, [(2, 1)]), (0, [(5, 1)])]), (2, [], [(0, [(0, 1)]), (0, [(6, 1)])]), (0, [], [(0, [(2, 1)])]), (0, [], [(-1, [(2, -1), (6, 1)])]), (0, [], [(-3, [(5, 1)])])], [(0, [], [(-1, [(2, -1), (4, 1)])])])
theorem q_l150_ok : ∀ (g : Int → Int → Int) (ln : Int → Int) (kf : Int → Nat) (ρ : List Int), sv_BOk ρ q_l150.1 → (∀ f ∈ q_l150.2.1, sv_FQk q_Ks q_Q g ln kf ρ f) → ∀ f ∈ q_l150.2.2, sv_FQk q_Ks q_Q g ln kf ρ f := by
  intro g ln kf ρ hb hf
  obtain ⟨hl, hb⟩ := hb
  obtain ⟨xa, r0, rfl, l0⟩ := sv_lens hl
  obtain ⟨xs, r1, rfl, l1⟩ := sv_lens l0
  obtain ⟨xp, r2, rfl, l2⟩ := sv_lens l1
  obtain ⟨xn, r3, rfl, l3⟩ := sv_lens l2
  obtain ⟨xe, r4, rfl, l4⟩ := sv_lens l3
  obtain ⟨xx, r5, rfl, l5⟩ := sv_lens l4
  obtain ⟨xN, r6, rfl, l6⟩ := sv_lens l5
  obtain rfl := sv_len0 l6
  clear l0 l1 l2 l3 l4 l5 l6 hl
  have ba : 0 ≤ xa := (hb 0 _ _ rfl rfl).1
  clear hb
  have h0 := hf _ (List.mem_of_getElem? (i := 0) rfl)
  simp [sv_FQk, sv_FQ, sv_evs, sv_ev, sv_evT, sv_nth, sv_adq, sv_gs, q_Ks_29, q_Q_29] at h0
  have h1 := hf _ (List.mem_of_getElem? (i := 1) rfl)
  simp [sv_FQk, sv_FQ, sv_evs, sv_ev, sv_evT, sv_nth, sv_adq, sv_gs, q_Ks_29, q_Q_29] at h1
  have h2 := hf _ (List.mem_of_getElem? (i := 2) rfl)
  simp [sv_FQk, sv_FQ, sv_evs, sv_ev, sv_evT, sv_nth, sv_adq, sv_gs] at h2
  have h3 := hf _ (List.mem_of_getElem? (i := 3) rfl)
  simp [sv_FQk, sv_FQ, sv_evs, sv_ev, sv_evT, sv_nth, sv_adq, sv_gs] at h3
  have h4 := hf _ (List.mem_of_getElem? (i := 4) rfl)
  simp [sv_FQk, sv_FQ, sv_evs, sv_ev, sv_evT, sv_nth, sv_adq, sv_gs] at h4
  have h5 := hf _ (List.mem_of_getElem? (i := 5) rfl)
  simp [sv_FQk, sv_FQ, sv_evs, sv_ev, sv_evT, sv_nth, sv_adq, sv_gs] at h5
  have h6 := hf _ (List.mem_of_getElem? (i := 6) rfl)
  simp [sv_FQk, sv_FQ, sv_evs, sv_ev, sv_evT, sv_nth, sv_adq, sv_gs] at h6
  have h7 := hf _ (List.mem_of_getElem? (i := 7) rfl)
  simp [sv_FQk, sv_FQ, sv_evs, sv_ev, sv_evT, sv_nth, sv_adq, sv_gs] at h7
  have h8 := hf _ (List.mem_of_getElem? (i := 8) rfl)
  simp [sv_FQk, sv_FQ, sv_evs, sv_ev, sv_evT, sv_nth, sv_adq, sv_gs] at h8
  clear hf
  obtain ⟨⟨-, Ka⟩, h0⟩ := h0
  rw [sv_Qwk_iff] at h0
  obtain ⟨⟨-, Ka⟩, h1⟩ := h1
  rw [sv_Qwk_iff] at h1
  replace h4 := h4 ba (by omega) (by have := h5 ba; omega)
  intro f hf
  have hf : f ∈ [(0, [], [(-1, [(2, -1), (4, 1)])])] := hf
  simp only [List.mem_cons, List.not_mem_nil, or_false] at hf
  subst hf
  · simp [sv_FQk, sv_FQ, sv_evs, sv_ev, sv_evT, sv_nth, sv_adq, sv_gs]
    have q := sv_wk_step (by omega) h0
    rw [h4] at q
    have e : sv_wk1 xx = 1 := by unfold sv_wk1; rw [if_neg (by omega), if_neg (by omega)]
    have r := sv_wk_mono (f := g xa) (n := (1 + xs).toNat) (m := xn.toNat) (by omega)
    omega
-- wk_b
def q_l151 : SvM := ([(0, none), (-1180591620717411303424, none), (-1180591620717411303424, none), (-1180591620717411303424, none), (-1180591620717411303424, none)], [(45, [], [(0, [(0, 1)]), (0, [(1, 1)]), (0, [(2, 1)])]), (45, [], [(0, [(0, 1)]), (0, [(3, 1)]), (0, [(4, 1)])]), (0, [], [(0, [(1, 1)])]), (0, [], [(-1, [(1, -1), (3, 1)])])], [(0, [], [(-1, [(2, -1), (4, 1)])])])
theorem q_l151_ok : ∀ (g : Int → Int → Int) (ln : Int → Int) (kf : Int → Nat) (ρ : List Int), sv_BOk ρ q_l151.1 → (∀ f ∈ q_l151.2.1, sv_FQk q_Ks q_Q g ln kf ρ f) → ∀ f ∈ q_l151.2.2, sv_FQk q_Ks q_Q g ln kf ρ f := by
  intro g ln kf ρ hb hf
  obtain ⟨hl, hb⟩ := hb
  obtain ⟨xa, r0, rfl, l0⟩ := sv_lens hl
  obtain ⟨xs, r1, rfl, l1⟩ := sv_lens l0
  obtain ⟨xp, r2, rfl, l2⟩ := sv_lens l1
  obtain ⟨xn, r3, rfl, l3⟩ := sv_lens l2
  obtain ⟨xe, r4, rfl, l4⟩ := sv_lens l3
  obtain rfl := sv_len0 l4
  clear l0 l1 l2 l3 l4 hl
  have ba : 0 ≤ xa := (hb 0 _ _ rfl rfl).1
  clear hb
  have h0 := hf _ (List.mem_of_getElem? (i := 0) rfl)
  simp [sv_FQk, sv_FQ, sv_evs, sv_ev, sv_evT, sv_nth, sv_adq, sv_gs, q_Ks_29, q_Q_29] at h0
  have h1 := hf _ (List.mem_of_getElem? (i := 1) rfl)
  simp [sv_FQk, sv_FQ, sv_evs, sv_ev, sv_evT, sv_nth, sv_adq, sv_gs, q_Ks_29, q_Q_29] at h1
  have h2 := hf _ (List.mem_of_getElem? (i := 2) rfl)
  simp [sv_FQk, sv_FQ, sv_evs, sv_ev, sv_evT, sv_nth, sv_adq, sv_gs] at h2
  have h3 := hf _ (List.mem_of_getElem? (i := 3) rfl)
  simp [sv_FQk, sv_FQ, sv_evs, sv_ev, sv_evT, sv_nth, sv_adq, sv_gs] at h3
  clear hf
  obtain ⟨⟨-, Ka⟩, h0⟩ := h0
  rw [sv_Qwk_iff] at h0
  obtain ⟨⟨-, Ka⟩, h1⟩ := h1
  rw [sv_Qwk_iff] at h1
  intro f hf
  have hf : f ∈ [(0, [], [(-1, [(2, -1), (4, 1)])])] := hf
  simp only [List.mem_cons, List.not_mem_nil, or_false] at hf
  subst hf
  · simp [sv_FQk, sv_FQ, sv_evs, sv_ev, sv_evT, sv_nth, sv_adq, sv_gs]
    have q := sv_wk_step (by omega) h0
    have e := sv_wk1_pos (g xa xp)
    have r := sv_wk_mono (f := g xa) (n := (1 + xs).toNat) (m := xn.toNat) (by omega)
    omega
-- cg_0
def q_l152 : SvM := ([(0, none), (-1180591620717411303424, none), (-1180591620717411303424, none), (-1180591620717411303424, none)], [(1, [74], [(0, [(0, 1)])]), (0, [], [(0, [(3, -1)])])], [(46, [], [(0, [(0, 1)]), (0, [(1, 1)]), (0, [(2, 1)]), (0, [(3, 1)])])])
theorem q_l152_ok : ∀ (g : Int → Int → Int) (ln : Int → Int) (kf : Int → Nat) (ρ : List Int), sv_BOk ρ q_l152.1 → (∀ f ∈ q_l152.2.1, sv_FQk q_Ks q_Q g ln kf ρ f) → ∀ f ∈ q_l152.2.2, sv_FQk q_Ks q_Q g ln kf ρ f := by
  intro g ln kf ρ hb hf
  obtain ⟨hl, hb⟩ := hb
  obtain ⟨xa, r0, rfl, l0⟩ := sv_lens hl
  obtain ⟨xb, r1, rfl, l1⟩ := sv_lens l0
  obtain ⟨xe, r2, rfl, l2⟩ := sv_lens l1
  obtain ⟨xc, r3, rfl, l3⟩ := sv_lens l2
  obtain rfl := sv_len0 l3
  clear l0 l1 l2 l3 hl
  have ba : 0 ≤ xa := (hb 0 _ _ rfl rfl).1
  clear hb
  have h0 := hf _ (List.mem_of_getElem? (i := 0) rfl)
  simp [sv_FQk, sv_FQ, sv_evs, sv_ev, sv_evT, sv_nth, sv_adq, sv_gs] at h0
  have h1 := hf _ (List.mem_of_getElem? (i := 1) rfl)
  simp [sv_FQk, sv_FQ, sv_evs, sv_ev, sv_evT, sv_nth, sv_adq, sv_gs] at h1
  clear hf
  have Ka : kf xa = 74 := by omega
  intro f hf
  have hf : f ∈ [(46, [], [(0, [(0, 1)]), (0, [(1, 1)]), (0, [(2, 1)]), (0, [(3, 1)])])] := hf
  simp only [List.mem_cons, List.not_mem_nil, or_false] at hf
  subst hf
  · simp [sv_FQk, sv_FQ, sv_evs, sv_ev, sv_evT, sv_nth, sv_adq, sv_gs, q_Ks_30, q_Q_30]
    refine ⟨⟨ba, Ka⟩, ?_⟩
    rw [sv_Qcg_iff]
    exact Or.inr (by omega)
-- cg_b
def q_l153 : SvM := ([(0, none), (-1180591620717411303424, none), (-1180591620717411303424, none), (-1180591620717411303424, none), (-1180591620717411303424, none), (-1180591620717411303424, none), (-1180591620717411303424, none)], [(46, [], [(0, [(0, 1)]), (0, [(1, 1)]), (0, [(2, 1)]), (0, [(3, 1)])]), (4, [74, 1], [(0, [(0, 1)]), (0, [(4, 1)]), (0, [(5, 1)])]), (2, [], [(0, [(0, 1)]), (0, [(6, 1)])]), (0, [], [(0, [(4, 1)])]), (0, [], [(-1, [(4, -1), (6, 1)])]), (0, [], [(0, [(1, -1), (4, 1)])]), (0, [], [(-1, [(2, 1), (4, -1)])]), (0, [], [(15, [(5, -1)])])], [(0, [], [(-1, [(1, -1), (2, 1), (3, -1)])])])
theorem q_l153_ok : ∀ (g : Int → Int → Int) (ln : Int → Int) (kf : Int → Nat) (ρ : List Int), sv_BOk ρ q_l153.1 → (∀ f ∈ q_l153.2.1, sv_FQk q_Ks q_Q g ln kf ρ f) → ∀ f ∈ q_l153.2.2, sv_FQk q_Ks q_Q g ln kf ρ f := by
  intro g ln kf ρ hb hf
  obtain ⟨hl, hb⟩ := hb
  obtain ⟨xa, r0, rfl, l0⟩ := sv_lens hl
  obtain ⟨xb, r1, rfl, l1⟩ := sv_lens l0
  obtain ⟨xe, r2, rfl, l2⟩ := sv_lens l1
  obtain ⟨xc, r3, rfl, l3⟩ := sv_lens l2
  obtain ⟨xi, r4, rfl, l4⟩ := sv_lens l3
  obtain ⟨xx, r5, rfl, l5⟩ := sv_lens l4
  obtain ⟨xN, r6, rfl, l6⟩ := sv_lens l5
  obtain rfl := sv_len0 l6
  clear l0 l1 l2 l3 l4 l5 l6 hl
  have ba : 0 ≤ xa := (hb 0 _ _ rfl rfl).1
  clear hb
  have h0 := hf _ (List.mem_of_getElem? (i := 0) rfl)
  simp [sv_FQk, sv_FQ, sv_evs, sv_ev, sv_evT, sv_nth, sv_adq, sv_gs, q_Ks_30, q_Q_30] at h0
  have h1 := hf _ (List.mem_of_getElem? (i := 1) rfl)
  simp [sv_FQk, sv_FQ, sv_evs, sv_ev, sv_evT, sv_nth, sv_adq, sv_gs] at h1
  have h2 := hf _ (List.mem_of_getElem? (i := 2) rfl)
  simp [sv_FQk, sv_FQ, sv_evs, sv_ev, sv_evT, sv_nth, sv_adq, sv_gs] at h2
  have h3 := hf _ (List.mem_of_getElem? (i := 3) rfl)
  simp [sv_FQk, sv_FQ, sv_evs, sv_ev, sv_evT, sv_nth, sv_adq, sv_gs] at h3
  have h4 := hf _ (List.mem_of_getElem? (i := 4) rfl)
  simp [sv_FQk, sv_FQ, sv_evs, sv_ev, sv_evT, sv_nth, sv_adq, sv_gs] at h4
  have h5 := hf _ (List.mem_of_getElem? (i := 5) rfl)
  simp [sv_FQk, sv_FQ, sv_evs, sv_ev, sv_evT, sv_nth, sv_adq, sv_gs] at h5
  have h6 := hf _ (List.mem_of_getElem? (i := 6) rfl)
  simp [sv_FQk, sv_FQ, sv_evs, sv_ev, sv_evT, sv_nth, sv_adq, sv_gs] at h6
  have h7 := hf _ (List.mem_of_getElem? (i := 7) rfl)
  simp [sv_FQk, sv_FQ, sv_evs, sv_ev, sv_evT, sv_nth, sv_adq, sv_gs] at h7
  clear hf
  obtain ⟨⟨-, Ka⟩, h0⟩ := h0
  rw [sv_Qcg_iff] at h0
  replace h1 := h1 ba (by omega) (by have := h2 ba; omega)
  intro f hf
  have hf : f ∈ [(0, [], [(-1, [(1, -1), (2, 1), (3, -1)])])] := hf
  simp only [List.mem_cons, List.not_mem_nil, or_false] at hf
  subst hf
  · simp [sv_FQk, sv_FQ, sv_evs, sv_ev, sv_evT, sv_nth, sv_adq, sv_gs]
    have u : g xa (xb + (xi - xb)) = xx := sv_fat (by omega) h1
    have q : sv_sum (fun i => sv_cg1 (g xa (xb + i))) (xe - xb).toNat + 1 ≤ ((xe - xb).toNat : Int) := sv_cg_lt (f := fun j => g xa (xb + j)) (j := xi - xb) (by omega) (by omega) (by show g xa (xb + (xi - xb)) ≤ 15; omega)
    rcases h0 with h0 | h0 <;> omega
-- cg_n
def q_l154 : SvM := ([(0, none), (-1180591620717411303424, none), (-1180591620717411303424, none), (-1180591620717411303424, none)], [(46, [], [(0, [(0, 1)]), (0, [(1, 1)]), (0, [(2, 1)]), (0, [(3, 1)])]), (0, [], [(0, [(1, -1), (2, 1)])])], [(0, [], [(0, [(1, -1), (2, 1), (3, -1)])])])
theorem q_l154_ok : ∀ (g : Int → Int → Int) (ln : Int → Int) (kf : Int → Nat) (ρ : List Int), sv_BOk ρ q_l154.1 → (∀ f ∈ q_l154.2.1, sv_FQk q_Ks q_Q g ln kf ρ f) → ∀ f ∈ q_l154.2.2, sv_FQk q_Ks q_Q g ln kf ρ f := by
  intro g ln kf ρ hb hf
  obtain ⟨hl, hb⟩ := hb
  obtain ⟨xa, r0, rfl, l0⟩ := sv_lens hl
  obtain ⟨xb, r1, rfl, l1⟩ := sv_lens l0
  obtain ⟨xe, r2, rfl, l2⟩ := sv_lens l1
  obtain ⟨xc, r3, rfl, l3⟩ := sv_lens l2
  obtain rfl := sv_len0 l3
  clear l0 l1 l2 l3 hl
  have ba : 0 ≤ xa := (hb 0 _ _ rfl rfl).1
  clear hb
  have h0 := hf _ (List.mem_of_getElem? (i := 0) rfl)
  simp [sv_FQk, sv_FQ, sv_evs, sv_ev, sv_evT, sv_nth, sv_adq, sv_gs, q_Ks_30, q_Q_30] at h0
  have h1 := hf _ (List.mem_of_getElem? (i := 1) rfl)
  simp [sv_FQk, sv_FQ, sv_evs, sv_ev, sv_evT, sv_nth, sv_adq, sv_gs] at h1
  clear hf
  obtain ⟨⟨-, Ka⟩, h0⟩ := h0
  rw [sv_Qcg_iff] at h0
  intro f hf
  have hf : f ∈ [(0, [], [(0, [(1, -1), (2, 1), (3, -1)])])] := hf
  simp only [List.mem_cons, List.not_mem_nil, or_false] at hf
  subst hf
  · simp [sv_FQk, sv_FQ, sv_evs, sv_ev, sv_evT, sv_nth, sv_adq, sv_gs]
    have q : sv_sum (fun i => sv_cg1 (g xa (xb + i))) (xe - xb).toNat ≤ ((xe - xb).toNat : Int) := sv_cg_le (f := fun i => g xa (xb + i))
    rcases h0 with h0 | h0 <;> omega
-- fb_el
def q_l155 : SvM := ([(0, none), (-1180591620717411303424, none), (-1180591620717411303424, none), (-1180591620717411303424, none), (-1180591620717411303424, none), (-1180591620717411303424, none), (-1180591620717411303424, none)], [(48, [], [(0, [(0, 1)]), (0, [(1, 1)]), (0, [(2, 1)]), (0, [(3, 1)])]), (4, [94, 1], [(0, [(0, 1)]), (0, [(4, 1)]), (0, [(5, 1)])]), (2, [], [(0, [(0, 1)]), (0, [(6, 1)])]), (0, [], [(0, [(1, -1), (4, 1)])]), (0, [], [(-1, [(2, 1), (4, -1)])]), (0, [], [(0, [(4, 1)])]), (0, [], [(-1, [(4, -1), (6, 1)])])], [(0, [], [(0, [(3, -1), (5, 1)])])])
theorem q_l155_ok : ∀ (g : Int → Int → Int) (ln : Int → Int) (kf : Int → Nat) (ρ : List Int), sv_BOk ρ q_l155.1 → (∀ f ∈ q_l155.2.1, sv_FQk q_Ks q_Q g ln kf ρ f) → ∀ f ∈ q_l155.2.2, sv_FQk q_Ks q_Q g ln kf ρ f := by
  intro g ln kf ρ hb hf
  obtain ⟨hl, hb⟩ := hb
  obtain ⟨xa, r0, rfl, l0⟩ := sv_lens hl
  obtain ⟨xlo, r1, rfl, l1⟩ := sv_lens l0
  obtain ⟨xhi, r2, rfl, l2⟩ := sv_lens l1
  obtain ⟨xl, r3, rfl, l3⟩ := sv_lens l2
  obtain ⟨xi, r4, rfl, l4⟩ := sv_lens l3
  obtain ⟨xx, r5, rfl, l5⟩ := sv_lens l4
  obtain ⟨xN, r6, rfl, l6⟩ := sv_lens l5
  obtain rfl := sv_len0 l6
  clear l0 l1 l2 l3 l4 l5 l6 hl
  have ba : 0 ≤ xa := (hb 0 _ _ rfl rfl).1
  clear hb
  have h0 := hf _ (List.mem_of_getElem? (i := 0) rfl)
  simp [sv_FQk, sv_FQ, sv_evs, sv_ev, sv_evT, sv_nth, sv_adq, sv_gs, q_Ks_32, q_Q_32] at h0
  have h1 := hf _ (List.mem_of_getElem? (i := 1) rfl)
  simp [sv_FQk, sv_FQ, sv_evs, sv_ev, sv_evT, sv_nth, sv_adq, sv_gs] at h1
  have h2 := hf _ (List.mem_of_getElem? (i := 2) rfl)
  simp [sv_FQk, sv_FQ, sv_evs, sv_ev, sv_evT, sv_nth, sv_adq, sv_gs] at h2
  have h3 := hf _ (List.mem_of_getElem? (i := 3) rfl)
  simp [sv_FQk, sv_FQ, sv_evs, sv_ev, sv_evT, sv_nth, sv_adq, sv_gs] at h3
  have h4 := hf _ (List.mem_of_getElem? (i := 4) rfl)
  simp [sv_FQk, sv_FQ, sv_evs, sv_ev, sv_evT, sv_nth, sv_adq, sv_gs] at h4
  have h5 := hf _ (List.mem_of_getElem? (i := 5) rfl)
  simp [sv_FQk, sv_FQ, sv_evs, sv_ev, sv_evT, sv_nth, sv_adq, sv_gs] at h5
  have h6 := hf _ (List.mem_of_getElem? (i := 6) rfl)
  simp [sv_FQk, sv_FQ, sv_evs, sv_ev, sv_evT, sv_nth, sv_adq, sv_gs] at h6
  clear hf
  obtain ⟨⟨-, Ka⟩, h0⟩ := h0
  rw [sv_Qlb_iff] at h0
  replace h1 := h1 ba (by omega) (by have := h2 ba; omega)
  intro f hf
  have hf : f ∈ [(0, [], [(0, [(3, -1), (5, 1)])])] := hf
  simp only [List.mem_cons, List.not_mem_nil, or_false] at hf
  subst hf
  · simp [sv_FQk, sv_FQ, sv_evs, sv_ev, sv_evT, sv_nth, sv_adq, sv_gs]
    have q := h0 xi (by omega) (by omega)
    rw [h1] at q
    omega
-- fb_0
def q_l156 : SvM := ([(0, none), (-1180591620717411303424, none), (-1180591620717411303424, none), (-1180591620717411303424, none)], [(1, [94], [(0, [(0, 1)])]), (0, [], [(0, [(1, 1), (2, -1)])])], [(48, [], [(0, [(0, 1)]), (0, [(1, 1)]), (0, [(2, 1)]), (0, [(3, 1)])])])
theorem q_l156_ok : ∀ (g : Int → Int → Int) (ln : Int → Int) (kf : Int → Nat) (ρ : List Int), sv_BOk ρ q_l156.1 → (∀ f ∈ q_l156.2.1, sv_FQk q_Ks q_Q g ln kf ρ f) → ∀ f ∈ q_l156.2.2, sv_FQk q_Ks q_Q g ln kf ρ f := by
  intro g ln kf ρ hb hf
  obtain ⟨hl, hb⟩ := hb
  obtain ⟨xa, r0, rfl, l0⟩ := sv_lens hl
  obtain ⟨xlo, r1, rfl, l1⟩ := sv_lens l0
  obtain ⟨xhi, r2, rfl, l2⟩ := sv_lens l1
  obtain ⟨xl, r3, rfl, l3⟩ := sv_lens l2
  obtain rfl := sv_len0 l3
  clear l0 l1 l2 l3 hl
  have ba : 0 ≤ xa := (hb 0 _ _ rfl rfl).1
  clear hb
  have h0 := hf _ (List.mem_of_getElem? (i := 0) rfl)
  simp [sv_FQk, sv_FQ, sv_evs, sv_ev, sv_evT, sv_nth, sv_adq, sv_gs] at h0
  have h1 := hf _ (List.mem_of_getElem? (i := 1) rfl)
  simp [sv_FQk, sv_FQ, sv_evs, sv_ev, sv_evT, sv_nth, sv_adq, sv_gs] at h1
  clear hf
  have Ka : kf xa = 94 := by omega
  intro f hf
  have hf : f ∈ [(48, [], [(0, [(0, 1)]), (0, [(1, 1)]), (0, [(2, 1)]), (0, [(3, 1)])])] := hf
  simp only [List.mem_cons, List.not_mem_nil, or_false] at hf
  subst hf
  · simp [sv_FQk, sv_FQ, sv_evs, sv_ev, sv_evT, sv_nth, sv_adq, sv_gs, q_Ks_32, q_Q_32]
    refine ⟨⟨ba, Ka⟩, ?_⟩
    rw [sv_Qlb_iff]
    intro j j1 j2
    omega
-- fb_w
def q_l157 : SvM := ([(0, none), (-1180591620717411303424, none), (-1180591620717411303424, none), (-1180591620717411303424, none), (-1180591620717411303424, none), (-1180591620717411303424, none), (-1180591620717411303424, none)], [(48, [], [(0, [(0, 1)]), (0, [(1, 1)]), (0, [(2, 1)]), (0, [(3, 1)])]), (0, [], [(0, [(1, -1), (4, 1)])]), (0, [], [(0, [(2, 1), (5, -1)])]), (0, [], [(0, [(3, 1), (6, -1)])])], [(48, [], [(0, [(0, 1)]), (0, [(4, 1)]), (0, [(5, 1)]), (0, [(6, 1)])])])
theorem q_l157_ok : ∀ (g : Int → Int → Int) (ln : Int → Int) (kf : Int → Nat) (ρ : List Int), sv_BOk ρ q_l157.1 → (∀ f ∈ q_l157.2.1, sv_FQk q_Ks q_Q g ln kf ρ f) → ∀ f ∈ q_l157.2.2, sv_FQk q_Ks q_Q g ln kf ρ f := by
  intro g ln kf ρ hb hf
  obtain ⟨hl, hb⟩ := hb
  obtain ⟨xa, r0, rfl, l0⟩ := sv_lens hl
  obtain ⟨xlo, r1, rfl, l1⟩ := sv_lens l0
  obtain ⟨xhi, r2, rfl, l2⟩ := sv_lens l1
  obtain ⟨xl, r3, rfl, l3⟩ := sv_lens l2
  obtain ⟨xlp, r4, rfl, l4⟩ := sv_lens l3
  obtain ⟨xhp, r5, rfl, l5⟩ := sv_lens l4
  obtain ⟨xkp, r6, rfl, l6⟩ := sv_lens l5
  obtain rfl := sv_len0 l6
  clear l0 l1 l2 l3 l4 l5 l6 hl
  have ba : 0 ≤ xa := (hb 0 _ _ rfl rfl).1
  clear hb
  have h0 := hf _ (List.mem_of_getElem? (i := 0) rfl)
  simp [sv_FQk, sv_FQ, sv_evs, sv_ev, sv_evT, sv_nth, sv_adq, sv_gs, q_Ks_32, q_Q_32] at h0
  have h1 := hf _ (List.mem_of_getElem? (i := 1) rfl)
  simp [sv_FQk, sv_FQ, sv_evs, sv_ev, sv_evT, sv_nth, sv_adq, sv_gs] at h1
  have h2 := hf _ (List.mem_of_getElem? (i := 2) rfl)
  simp [sv_FQk, sv_FQ, sv_evs, sv_ev, sv_evT, sv_nth, sv_adq, sv_gs] at h2
  have h3 := hf _ (List.mem_of_getElem? (i := 3) rfl)
  simp [sv_FQk, sv_FQ, sv_evs, sv_ev, sv_evT, sv_nth, sv_adq, sv_gs] at h3
  clear hf
  obtain ⟨⟨-, Ka⟩, h0⟩ := h0
  rw [sv_Qlb_iff] at h0
  intro f hf
  have hf : f ∈ [(48, [], [(0, [(0, 1)]), (0, [(4, 1)]), (0, [(5, 1)]), (0, [(6, 1)])])] := hf
  simp only [List.mem_cons, List.not_mem_nil, or_false] at hf
  subst hf
  · simp [sv_FQk, sv_FQ, sv_evs, sv_ev, sv_evT, sv_nth, sv_adq, sv_gs, q_Ks_32, q_Q_32]
    refine ⟨⟨ba, Ka⟩, ?_⟩
    rw [sv_Qlb_iff]
    intro j j1 j2
    have q := h0 j (by omega) (by omega)
    omega
-- fc_0
def q_l158 : SvM := ([(0, none), (0, none), (-1180591620717411303424, none), (-1180591620717411303424, none)], [(1, [94], [(0, [(0, 1)])]), (1, [93], [(0, [(1, 1)])]), (0, [], [(0, [(3, -1)])])], [(47, [], [(0, [(0, 1)]), (0, [(1, 1)]), (0, [(2, 1)]), (0, [(3, 1)])])])
theorem q_l158_ok : ∀ (g : Int → Int → Int) (ln : Int → Int) (kf : Int → Nat) (ρ : List Int), sv_BOk ρ q_l158.1 → (∀ f ∈ q_l158.2.1, sv_FQk q_Ks q_Q g ln kf ρ f) → ∀ f ∈ q_l158.2.2, sv_FQk q_Ks q_Q g ln kf ρ f := by
  intro g ln kf ρ hb hf
  obtain ⟨hl, hb⟩ := hb
  obtain ⟨xa, r0, rfl, l0⟩ := sv_lens hl
  obtain ⟨xm, r1, rfl, l1⟩ := sv_lens l0
  obtain ⟨xb, r2, rfl, l2⟩ := sv_lens l1
  obtain ⟨xn, r3, rfl, l3⟩ := sv_lens l2
  obtain rfl := sv_len0 l3
  clear l0 l1 l2 l3 hl
  have ba : 0 ≤ xa := (hb 0 _ _ rfl rfl).1
  have bm : 0 ≤ xm := (hb 1 _ _ rfl rfl).1
  clear hb
  have h0 := hf _ (List.mem_of_getElem? (i := 0) rfl)
  simp [sv_FQk, sv_FQ, sv_evs, sv_ev, sv_evT, sv_nth, sv_adq, sv_gs] at h0
  have h1 := hf _ (List.mem_of_getElem? (i := 1) rfl)
  simp [sv_FQk, sv_FQ, sv_evs, sv_ev, sv_evT, sv_nth, sv_adq, sv_gs] at h1
  have h2 := hf _ (List.mem_of_getElem? (i := 2) rfl)
  simp [sv_FQk, sv_FQ, sv_evs, sv_ev, sv_evT, sv_nth, sv_adq, sv_gs] at h2
  clear hf
  have Ka : kf xa = 94 := by omega
  have Km : kf xm = 93 := by omega
  intro f hf
  have hf : f ∈ [(47, [], [(0, [(0, 1)]), (0, [(1, 1)]), (0, [(2, 1)]), (0, [(3, 1)])])] := hf
  simp only [List.mem_cons, List.not_mem_nil, or_false] at hf
  subst hf
  · simp [sv_FQk, sv_FQ, sv_evs, sv_ev, sv_evT, sv_nth, sv_adq, sv_gs, q_Ks_31, q_Q_31]
    refine ⟨⟨⟨ba, Ka⟩, ⟨bm, Km⟩⟩, ?_⟩
    rw [sv_Qfc_iff]
    intro i i1 i2 j j1 j2
    omega
-- fc_w
def q_l159 : SvM := ([(0, none), (0, none), (-1180591620717411303424, none), (-1180591620717411303424, none), (-1180591620717411303424, none)], [(47, [], [(0, [(0, 1)]), (0, [(1, 1)]), (0, [(2, 1)]), (0, [(3, 1)])]), (0, [], [(0, [(3, 1), (4, -1)])])], [(47, [], [(0, [(0, 1)]), (0, [(1, 1)]), (0, [(2, 1)]), (0, [(4, 1)])])])
theorem q_l159_ok : ∀ (g : Int → Int → Int) (ln : Int → Int) (kf : Int → Nat) (ρ : List Int), sv_BOk ρ q_l159.1 → (∀ f ∈ q_l159.2.1, sv_FQk q_Ks q_Q g ln kf ρ f) → ∀ f ∈ q_l159.2.2, sv_FQk q_Ks q_Q g ln kf ρ f := by
  intro g ln kf ρ hb hf
  obtain ⟨hl, hb⟩ := hb
  obtain ⟨xa, r0, rfl, l0⟩ := sv_lens hl
  obtain ⟨xm, r1, rfl, l1⟩ := sv_lens l0
  obtain ⟨xb, r2, rfl, l2⟩ := sv_lens l1
  obtain ⟨xn, r3, rfl, l3⟩ := sv_lens l2
  obtain ⟨xk, r4, rfl, l4⟩ := sv_lens l3
  obtain rfl := sv_len0 l4
  clear l0 l1 l2 l3 l4 hl
  have ba : 0 ≤ xa := (hb 0 _ _ rfl rfl).1
  have bm : 0 ≤ xm := (hb 1 _ _ rfl rfl).1
  clear hb
  have h0 := hf _ (List.mem_of_getElem? (i := 0) rfl)
  simp [sv_FQk, sv_FQ, sv_evs, sv_ev, sv_evT, sv_nth, sv_adq, sv_gs, q_Ks_31, q_Q_31] at h0
  have h1 := hf _ (List.mem_of_getElem? (i := 1) rfl)
  simp [sv_FQk, sv_FQ, sv_evs, sv_ev, sv_evT, sv_nth, sv_adq, sv_gs] at h1
  clear hf
  obtain ⟨⟨⟨-, Ka⟩, ⟨-, Km⟩⟩, h0⟩ := h0
  rw [sv_Qfc_iff] at h0
  intro f hf
  have hf : f ∈ [(47, [], [(0, [(0, 1)]), (0, [(1, 1)]), (0, [(2, 1)]), (0, [(4, 1)])])] := hf
  simp only [List.mem_cons, List.not_mem_nil, or_false] at hf
  subst hf
  · simp [sv_FQk, sv_FQ, sv_evs, sv_ev, sv_evT, sv_nth, sv_adq, sv_gs, q_Ks_31, q_Q_31]
    refine ⟨⟨⟨ba, Ka⟩, ⟨bm, Km⟩⟩, ?_⟩
    rw [sv_Qfc_iff]
    intro i i1 i2
    exact h0 i i1 (by omega)
-- fc_e
def q_l160 : SvM := ([(0, none), (0, none), (-1180591620717411303424, none), (-1180591620717411303424, none), (-1180591620717411303424, none), (-1180591620717411303424, none), (-1180591620717411303424, none), (-1180591620717411303424, none), (-1180591620717411303424, none), (-1180591620717411303424, none)], [(47, [], [(0, [(0, 1)]), (0, [(1, 1)]), (0, [(2, 1)]), (0, [(3, 1)])]), (4, [93, 1], [(0, [(1, 1)]), (0, [(4, 1)]), (0, [(5, 1)])]), (2, [], [(0, [(1, 1)]), (0, [(6, 1)])]), (0, [], [(0, [(4, 1)])]), (0, [], [(-1, [(4, -1), (6, 1)])]), (0, [], [(0, [(2, -1), (4, 1)])]), (0, [], [(-1, [(2, 1), (3, 1), (4, -1)])]), (4, [94, 1], [(0, [(0, 1)]), (0, [(7, 1)]), (0, [(8, 1)])]), (2, [], [(0, [(0, 1)]), (0, [(9, 1)])]), (0, [], [(0, [(7, 1)])]), (0, [], [(-1, [(7, -1), (9, 1)])]), (0, [], [(0, [(4, -256), (7, 1)])]), (0, [], [(-1, [(4, 256), (5, 1), (7, -1)])]), (0, [], [(255, [(4, 256), (7, -1)])])], [(0, [], [(0, [(8, 1)])])])
theorem q_l160_ok : ∀ (g : Int → Int → Int) (ln : Int → Int) (kf : Int → Nat) (ρ : List Int), sv_BOk ρ q_l160.1 → (∀ f ∈ q_l160.2.1, sv_FQk q_Ks q_Q g ln kf ρ f) → ∀ f ∈ q_l160.2.2, sv_FQk q_Ks q_Q g ln kf ρ f := by
  intro g ln kf ρ hb hf
  obtain ⟨hl, hb⟩ := hb
  obtain ⟨xa, r0, rfl, l0⟩ := sv_lens hl
  obtain ⟨xm, r1, rfl, l1⟩ := sv_lens l0
  obtain ⟨xb, r2, rfl, l2⟩ := sv_lens l1
  obtain ⟨xn, r3, rfl, l3⟩ := sv_lens l2
  obtain ⟨xi, r4, rfl, l4⟩ := sv_lens l3
  obtain ⟨xy, r5, rfl, l5⟩ := sv_lens l4
  obtain ⟨xNM, r6, rfl, l6⟩ := sv_lens l5
  obtain ⟨xj, r7, rfl, l7⟩ := sv_lens l6
  obtain ⟨xx, r8, rfl, l8⟩ := sv_lens l7
  obtain ⟨xNA, r9, rfl, l9⟩ := sv_lens l8
  obtain rfl := sv_len0 l9
  clear l0 l1 l2 l3 l4 l5 l6 l7 l8 l9 hl
  have ba : 0 ≤ xa := (hb 0 _ _ rfl rfl).1
  have bm : 0 ≤ xm := (hb 1 _ _ rfl rfl).1
  clear hb
  have h0 := hf _ (List.mem_of_getElem? (i := 0) rfl)
  simp [sv_FQk, sv_FQ, sv_evs, sv_ev, sv_evT, sv_nth, sv_adq, sv_gs, q_Ks_31, q_Q_31] at h0
  have h1 := hf _ (List.mem_of_getElem? (i := 1) rfl)
  simp [sv_FQk, sv_FQ, sv_evs, sv_ev, sv_evT, sv_nth, sv_adq, sv_gs] at h1
  have h2 := hf _ (List.mem_of_getElem? (i := 2) rfl)
  simp [sv_FQk, sv_FQ, sv_evs, sv_ev, sv_evT, sv_nth, sv_adq, sv_gs] at h2
  have h3 := hf _ (List.mem_of_getElem? (i := 3) rfl)
  simp [sv_FQk, sv_FQ, sv_evs, sv_ev, sv_evT, sv_nth, sv_adq, sv_gs] at h3
  have h4 := hf _ (List.mem_of_getElem? (i := 4) rfl)
  simp [sv_FQk, sv_FQ, sv_evs, sv_ev, sv_evT, sv_nth, sv_adq, sv_gs] at h4
  have h5 := hf _ (List.mem_of_getElem? (i := 5) rfl)
  simp [sv_FQk, sv_FQ, sv_evs, sv_ev, sv_evT, sv_nth, sv_adq, sv_gs] at h5
  have h6 := hf _ (List.mem_of_getElem? (i := 6) rfl)
  simp [sv_FQk, sv_FQ, sv_evs, sv_ev, sv_evT, sv_nth, sv_adq, sv_gs] at h6
  have h7 := hf _ (List.mem_of_getElem? (i := 7) rfl)
  simp [sv_FQk, sv_FQ, sv_evs, sv_ev, sv_evT, sv_nth, sv_adq, sv_gs] at h7
  have h8 := hf _ (List.mem_of_getElem? (i := 8) rfl)
  simp [sv_FQk, sv_FQ, sv_evs, sv_ev, sv_evT, sv_nth, sv_adq, sv_gs] at h8
  have h9 := hf _ (List.mem_of_getElem? (i := 9) rfl)
  simp [sv_FQk, sv_FQ, sv_evs, sv_ev, sv_evT, sv_nth, sv_adq, sv_gs] at h9
  have h10 := hf _ (List.mem_of_getElem? (i := 10) rfl)
  simp [sv_FQk, sv_FQ, sv_evs, sv_ev, sv_evT, sv_nth, sv_adq, sv_gs] at h10
  have h11 := hf _ (List.mem_of_getElem? (i := 11) rfl)
  simp [sv_FQk, sv_FQ, sv_evs, sv_ev, sv_evT, sv_nth, sv_adq, sv_gs] at h11
  have h12 := hf _ (List.mem_of_getElem? (i := 12) rfl)
  simp [sv_FQk, sv_FQ, sv_evs, sv_ev, sv_evT, sv_nth, sv_adq, sv_gs] at h12
  have h13 := hf _ (List.mem_of_getElem? (i := 13) rfl)
  simp [sv_FQk, sv_FQ, sv_evs, sv_ev, sv_evT, sv_nth, sv_adq, sv_gs] at h13
  clear hf
  obtain ⟨⟨⟨-, Ka⟩, ⟨-, Km⟩⟩, h0⟩ := h0
  rw [sv_Qfc_iff] at h0
  replace h1 := h1 bm (by omega) (by have := h2 bm; omega)
  replace h7 := h7 ba (by omega) (by have := h8 ba; omega)
  intro f hf
  have hf : f ∈ [(0, [], [(0, [(8, 1)])])] := hf
  simp only [List.mem_cons, List.not_mem_nil, or_false] at hf
  subst hf
  · simp [sv_FQk, sv_FQ, sv_evs, sv_ev, sv_evT, sv_nth, sv_adq, sv_gs]
    have q := h0 xi (by omega) (by omega) xj (by omega) (by omega) (by omega)
    have u := h7
    omega
-- fc_a
def q_l161 : SvM := ([(0, none), (0, none), (-1180591620717411303424, none), (-1180591620717411303424, none), (-1180591620717411303424, none), (-1180591620717411303424, none), (-1180591620717411303424, none)], [(47, [], [(0, [(0, 1)]), (0, [(1, 1)]), (0, [(2, 1)]), (0, [(3, 1)])]), (4, [93, 1], [(0, [(1, 1)]), (0, [(4, 1)]), (0, [(5, 1)])]), (2, [], [(0, [(1, 1)]), (0, [(6, 1)])]), (0, [], [(0, [(4, 1)])]), (0, [], [(-1, [(4, -1), (6, 1)])]), (0, [], [(0, [(2, 1), (3, 1), (4, -1)])]), (0, [], [(0, [(2, -1), (3, -1), (4, 1)])]), (48, [], [(0, [(0, 1)]), (0, [(4, 256)]), (0, [(4, 256), (5, 1)]), (0, [])])], [(47, [], [(0, [(0, 1)]), (0, [(1, 1)]), (0, [(2, 1)]), (1, [(3, 1)])])])
theorem q_l161_ok : ∀ (g : Int → Int → Int) (ln : Int → Int) (kf : Int → Nat) (ρ : List Int), sv_BOk ρ q_l161.1 → (∀ f ∈ q_l161.2.1, sv_FQk q_Ks q_Q g ln kf ρ f) → ∀ f ∈ q_l161.2.2, sv_FQk q_Ks q_Q g ln kf ρ f := by
  intro g ln kf ρ hb hf
  obtain ⟨hl, hb⟩ := hb
  obtain ⟨xa, r0, rfl, l0⟩ := sv_lens hl
  obtain ⟨xm, r1, rfl, l1⟩ := sv_lens l0
  obtain ⟨xb, r2, rfl, l2⟩ := sv_lens l1
  obtain ⟨xn, r3, rfl, l3⟩ := sv_lens l2
  obtain ⟨xi, r4, rfl, l4⟩ := sv_lens l3
  obtain ⟨xy, r5, rfl, l5⟩ := sv_lens l4
  obtain ⟨xNM, r6, rfl, l6⟩ := sv_lens l5
  obtain rfl := sv_len0 l6
  clear l0 l1 l2 l3 l4 l5 l6 hl
  have ba : 0 ≤ xa := (hb 0 _ _ rfl rfl).1
  have bm : 0 ≤ xm := (hb 1 _ _ rfl rfl).1
  clear hb
  have h0 := hf _ (List.mem_of_getElem? (i := 0) rfl)
  simp [sv_FQk, sv_FQ, sv_evs, sv_ev, sv_evT, sv_nth, sv_adq, sv_gs, q_Ks_31, q_Q_31] at h0
  have h1 := hf _ (List.mem_of_getElem? (i := 1) rfl)
  simp [sv_FQk, sv_FQ, sv_evs, sv_ev, sv_evT, sv_nth, sv_adq, sv_gs] at h1
  have h2 := hf _ (List.mem_of_getElem? (i := 2) rfl)
  simp [sv_FQk, sv_FQ, sv_evs, sv_ev, sv_evT, sv_nth, sv_adq, sv_gs] at h2
  have h3 := hf _ (List.mem_of_getElem? (i := 3) rfl)
  simp [sv_FQk, sv_FQ, sv_evs, sv_ev, sv_evT, sv_nth, sv_adq, sv_gs] at h3
  have h4 := hf _ (List.mem_of_getElem? (i := 4) rfl)
  simp [sv_FQk, sv_FQ, sv_evs, sv_ev, sv_evT, sv_nth, sv_adq, sv_gs] at h4
  have h5 := hf _ (List.mem_of_getElem? (i := 5) rfl)
  simp [sv_FQk, sv_FQ, sv_evs, sv_ev, sv_evT, sv_nth, sv_adq, sv_gs] at h5
  have h6 := hf _ (List.mem_of_getElem? (i := 6) rfl)
  simp [sv_FQk, sv_FQ, sv_evs, sv_ev, sv_evT, sv_nth, sv_adq, sv_gs] at h6
  have h7 := hf _ (List.mem_of_getElem? (i := 7) rfl)
  simp [sv_FQk, sv_FQ, sv_evs, sv_ev, sv_evT, sv_nth, sv_adq, sv_gs, q_Ks_32, q_Q_32] at h7
  clear hf
  obtain ⟨⟨⟨-, Ka⟩, ⟨-, Km⟩⟩, h0⟩ := h0
  rw [sv_Qfc_iff] at h0
  replace h1 := h1 bm (by omega) (by have := h2 bm; omega)
  obtain ⟨⟨-, Ka⟩, h7⟩ := h7
  rw [sv_Qlb_iff] at h7
  intro f hf
  have hf : f ∈ [(47, [], [(0, [(0, 1)]), (0, [(1, 1)]), (0, [(2, 1)]), (1, [(3, 1)])])] := hf
  simp only [List.mem_cons, List.not_mem_nil, or_false] at hf
  subst hf
  · simp [sv_FQk, sv_FQ, sv_evs, sv_ev, sv_evT, sv_nth, sv_adq, sv_gs, q_Ks_31, q_Q_31]
    refine ⟨⟨⟨ba, Ka⟩, ⟨bm, Km⟩⟩, ?_⟩
    rw [sv_Qfc_iff]
    intro k k1 k2 j j1 j2 j3
    by_cases e : k = xi
    · rw [e] at j1 j2
      have q := h7 j (by omega) (by omega)
      omega
    · exact h0 k k1 (by omega) j j1 j2 j3
-- wf_el
def q_l162 : SvM := ([(0, none), (-1180591620717411303424, none), (-1180591620717411303424, none), (-1180591620717411303424, none), (-1180591620717411303424, none), (-1180591620717411303424, none), (-1180591620717411303424, none), (-1180591620717411303424, none)], [(49, [], [(0, [(0, 1)]), (0, [(1, 1)]), (0, [(2, 1)]), (0, [(3, 1)]), (0, [(4, 1)])]), (4, [99, 1], [(0, [(0, 1)]), (0, [(5, 1)]), (0, [(6, 1)])]), (2, [], [(0, [(0, 1)]), (0, [(7, 1)])]), (0, [], [(0, [(1, -1), (5, 1)])]), (0, [], [(-1, [(2, 1), (5, -1)])]), (0, [], [(0, [(5, 1)])]), (0, [], [(-1, [(5, -1), (7, 1)])])], [(0, [], [(0, [(3, -1), (6, 1)])]), (0, [], [(0, [(4, 1), (6, -1)])])])
theorem q_l162_ok : ∀ (g : Int → Int → Int) (ln : Int → Int) (kf : Int → Nat) (ρ : List Int), sv_BOk ρ q_l162.1 → (∀ f ∈ q_l162.2.1, sv_FQk q_Ks q_Q g ln kf ρ f) → ∀ f ∈ q_l162.2.2, sv_FQk q_Ks q_Q g ln kf ρ f := by
  intro g ln kf ρ hb hf
  obtain ⟨hl, hb⟩ := hb
  obtain ⟨xa, r0, rfl, l0⟩ := sv_lens hl
  obtain ⟨xlo, r1, rfl, l1⟩ := sv_lens l0
  obtain ⟨xhi, r2, rfl, l2⟩ := sv_lens l1
  obtain ⟨xl, r3, rfl, l3⟩ := sv_lens l2
  obtain ⟨xu, r4, rfl, l4⟩ := sv_lens l3
  obtain ⟨xi, r5, rfl, l5⟩ := sv_lens l4
  obtain ⟨xx, r6, rfl, l6⟩ := sv_lens l5
  obtain ⟨xN, r7, rfl, l7⟩ := sv_lens l6
  obtain rfl := sv_len0 l7
  clear l0 l1 l2 l3 l4 l5 l6 l7 hl
  have ba : 0 ≤ xa := (hb 0 _ _ rfl rfl).1
  clear hb
  have h0 := hf _ (List.mem_of_getElem? (i := 0) rfl)
  simp [sv_FQk, sv_FQ, sv_evs, sv_ev, sv_evT, sv_nth, sv_adq, sv_gs, q_Ks_33, q_Q_33] at h0
  have h1 := hf _ (List.mem_of_getElem? (i := 1) rfl)
  simp [sv_FQk, sv_FQ, sv_evs, sv_ev, sv_evT, sv_nth, sv_adq, sv_gs] at h1
  have h2 := hf _ (List.mem_of_getElem? (i := 2) rfl)
  simp [sv_FQk, sv_FQ, sv_evs, sv_ev, sv_evT, sv_nth, sv_adq, sv_gs] at h2
  have h3 := hf _ (List.mem_of_getElem? (i := 3) rfl)
  simp [sv_FQk, sv_FQ, sv_evs, sv_ev, sv_evT, sv_nth, sv_adq, sv_gs] at h3
  have h4 := hf _ (List.mem_of_getElem? (i := 4) rfl)
  simp [sv_FQk, sv_FQ, sv_evs, sv_ev, sv_evT, sv_nth, sv_adq, sv_gs] at h4
  have h5 := hf _ (List.mem_of_getElem? (i := 5) rfl)
  simp [sv_FQk, sv_FQ, sv_evs, sv_ev, sv_evT, sv_nth, sv_adq, sv_gs] at h5
  have h6 := hf _ (List.mem_of_getElem? (i := 6) rfl)
  simp [sv_FQk, sv_FQ, sv_evs, sv_ev, sv_evT, sv_nth, sv_adq, sv_gs] at h6
  clear hf
  obtain ⟨⟨-, Ka⟩, h0⟩ := h0
  rw [sv_Qlin_iff] at h0
  replace h1 := h1 ba (by omega) (by have := h2 ba; omega)
  intro f hf
  have hf : f ∈ [(0, [], [(0, [(3, -1), (6, 1)])]), (0, [], [(0, [(4, 1), (6, -1)])])] := hf
  simp only [List.mem_cons, List.not_mem_nil, or_false] at hf
  rcases hf with rfl | rfl
  · simp [sv_FQk, sv_FQ, sv_evs, sv_ev, sv_evT, sv_nth, sv_adq, sv_gs]
    have q := h0 xi (by omega) (by omega)
    rw [h1] at q
    omega
  · simp [sv_FQk, sv_FQ, sv_evs, sv_ev, sv_evT, sv_nth, sv_adq, sv_gs]
    have q := h0 xi (by omega) (by omega)
    rw [h1] at q
    omega
-- wf_0
def q_l163 : SvM := ([(0, none), (-1180591620717411303424, none), (-1180591620717411303424, none), (-1180591620717411303424, none), (-1180591620717411303424, none)], [(1, [99], [(0, [(0, 1)])]), (0, [], [(0, [(1, 1), (2, -1)])])], [(49, [], [(0, [(0, 1)]), (0, [(1, 1)]), (0, [(2, 1)]), (0, [(3, 1)]), (0, [(4, 1)])])])
theorem q_l163_ok : ∀ (g : Int → Int → Int) (ln : Int → Int) (kf : Int → Nat) (ρ : List Int), sv_BOk ρ q_l163.1 → (∀ f ∈ q_l163.2.1, sv_FQk q_Ks q_Q g ln kf ρ f) → ∀ f ∈ q_l163.2.2, sv_FQk q_Ks q_Q g ln kf ρ f := by
  intro g ln kf ρ hb hf
  obtain ⟨hl, hb⟩ := hb
  obtain ⟨xa, r0, rfl, l0⟩ := sv_lens hl
  obtain ⟨xlo, r1, rfl, l1⟩ := sv_lens l0
  obtain ⟨xhi, r2, rfl, l2⟩ := sv_lens l1
  obtain ⟨xl, r3, rfl, l3⟩ := sv_lens l2
  obtain ⟨xu, r4, rfl, l4⟩ := sv_lens l3
  obtain rfl := sv_len0 l4
  clear l0 l1 l2 l3 l4 hl
  have ba : 0 ≤ xa := (hb 0 _ _ rfl rfl).1
  clear hb
  have h0 := hf _ (List.mem_of_getElem? (i := 0) rfl)
  simp [sv_FQk, sv_FQ, sv_evs, sv_ev, sv_evT, sv_nth, sv_adq, sv_gs] at h0
  have h1 := hf _ (List.mem_of_getElem? (i := 1) rfl)
  simp [sv_FQk, sv_FQ, sv_evs, sv_ev, sv_evT, sv_nth, sv_adq, sv_gs] at h1
  clear hf
  have Ka : kf xa = 99 := by omega
  intro f hf
  have hf : f ∈ [(49, [], [(0, [(0, 1)]), (0, [(1, 1)]), (0, [(2, 1)]), (0, [(3, 1)]), (0, [(4, 1)])])] := hf
  simp only [List.mem_cons, List.not_mem_nil, or_false] at hf
  subst hf
  · simp [sv_FQk, sv_FQ, sv_evs, sv_ev, sv_evT, sv_nth, sv_adq, sv_gs, q_Ks_33, q_Q_33]
    refine ⟨⟨ba, Ka⟩, ?_⟩
    rw [sv_Qlin_iff]
    intro j j1 j2
    omega
-- wf_w
def q_l164 : SvM := ([(0, none), (-1180591620717411303424, none), (-1180591620717411303424, none), (-1180591620717411303424, none), (-1180591620717411303424, none), (-1180591620717411303424, none), (-1180591620717411303424, none), (-1180591620717411303424, none), (-1180591620717411303424, none)], [(49, [], [(0, [(0, 1)]), (0, [(1, 1)]), (0, [(2, 1)]), (0, [(3, 1)]), (0, [(4, 1)])]), (0, [], [(0, [(1, -1), (5, 1)])]), (0, [], [(0, [(2, 1), (6, -1)])]), (0, [], [(0, [(3, 1), (7, -1)])]), (0, [], [(0, [(4, -1), (8, 1)])])], [(49, [], [(0, [(0, 1)]), (0, [(5, 1)]), (0, [(6, 1)]), (0, [(7, 1)]), (0, [(8, 1)])])])
theorem q_l164_ok : ∀ (g : Int → Int → Int) (ln : Int → Int) (kf : Int → Nat) (ρ : List Int), sv_BOk ρ q_l164.1 → (∀ f ∈ q_l164.2.1, sv_FQk q_Ks q_Q g ln kf ρ f) → ∀ f ∈ q_l164.2.2, sv_FQk q_Ks q_Q g ln kf ρ f := by
  intro g ln kf ρ hb hf
  obtain ⟨hl, hb⟩ := hb
  obtain ⟨xa, r0, rfl, l0⟩ := sv_lens hl
  obtain ⟨xlo, r1, rfl, l1⟩ := sv_lens l0
  obtain ⟨xhi, r2, rfl, l2⟩ := sv_lens l1
  obtain ⟨xl, r3, rfl, l3⟩ := sv_lens l2
  obtain ⟨xu, r4, rfl, l4⟩ := sv_lens l3
  obtain ⟨xlp, r5, rfl, l5⟩ := sv_lens l4
  obtain ⟨xhp, r6, rfl, l6⟩ := sv_lens l5
  obtain ⟨xkp, r7, rfl, l7⟩ := sv_lens l6
  obtain ⟨xup, r8, rfl, l8⟩ := sv_lens l7
  obtain rfl := sv_len0 l8
  clear l0 l1 l2 l3 l4 l5 l6 l7 l8 hl
  have ba : 0 ≤ xa := (hb 0 _ _ rfl rfl).1
  clear hb
  have h0 := hf _ (List.mem_of_getElem? (i := 0) rfl)
  simp [sv_FQk, sv_FQ, sv_evs, sv_ev, sv_evT, sv_nth, sv_adq, sv_gs, q_Ks_33, q_Q_33] at h0
  have h1 := hf _ (List.mem_of_getElem? (i := 1) rfl)
  simp [sv_FQk, sv_FQ, sv_evs, sv_ev, sv_evT, sv_nth, sv_adq, sv_gs] at h1
  have h2 := hf _ (List.mem_of_getElem? (i := 2) rfl)
  simp [sv_FQk, sv_FQ, sv_evs, sv_ev, sv_evT, sv_nth, sv_adq, sv_gs] at h2
  have h3 := hf _ (List.mem_of_getElem? (i := 3) rfl)
  simp [sv_FQk, sv_FQ, sv_evs, sv_ev, sv_evT, sv_nth, sv_adq, sv_gs] at h3
  have h4 := hf _ (List.mem_of_getElem? (i := 4) rfl)
  simp [sv_FQk, sv_FQ, sv_evs, sv_ev, sv_evT, sv_nth, sv_adq, sv_gs] at h4
  clear hf
  obtain ⟨⟨-, Ka⟩, h0⟩ := h0
  rw [sv_Qlin_iff] at h0
  intro f hf
  have hf : f ∈ [(49, [], [(0, [(0, 1)]), (0, [(5, 1)]), (0, [(6, 1)]), (0, [(7, 1)]), (0, [(8, 1)])])] := hf
  simp only [List.mem_cons, List.not_mem_nil, or_false] at hf
  subst hf
  · simp [sv_FQk, sv_FQ, sv_evs, sv_ev, sv_evT, sv_nth, sv_adq, sv_gs, q_Ks_33, q_Q_33]
    refine ⟨⟨ba, Ka⟩, ?_⟩
    rw [sv_Qlin_iff]
    intro j j1 j2
    have q := h0 j (by omega) (by omega)
    omega
-- wf_j
def q_l165 : SvM := ([(0, none), (-1180591620717411303424, none), (-1180591620717411303424, none), (-1180591620717411303424, none), (-1180591620717411303424, none), (-1180591620717411303424, none)], [(49, [], [(0, [(0, 1)]), (0, [(1, 1)]), (0, [(2, 1)]), (0, [(4, 1)]), (0, [(5, 1)])]), (49, [], [(0, [(0, 1)]), (0, [(2, 1)]), (0, [(3, 1)]), (0, [(4, 1)]), (0, [(5, 1)])])], [(49, [], [(0, [(0, 1)]), (0, [(1, 1)]), (0, [(3, 1)]), (0, [(4, 1)]), (0, [(5, 1)])])])
theorem q_l165_ok : ∀ (g : Int → Int → Int) (ln : Int → Int) (kf : Int → Nat) (ρ : List Int), sv_BOk ρ q_l165.1 → (∀ f ∈ q_l165.2.1, sv_FQk q_Ks q_Q g ln kf ρ f) → ∀ f ∈ q_l165.2.2, sv_FQk q_Ks q_Q g ln kf ρ f := by
  intro g ln kf ρ hb hf
  obtain ⟨hl, hb⟩ := hb
  obtain ⟨xa, r0, rfl, l0⟩ := sv_lens hl
  obtain ⟨xlo, r1, rfl, l1⟩ := sv_lens l0
  obtain ⟨xmi, r2, rfl, l2⟩ := sv_lens l1
  obtain ⟨xhi, r3, rfl, l3⟩ := sv_lens l2
  obtain ⟨xl, r4, rfl, l4⟩ := sv_lens l3
  obtain ⟨xu, r5, rfl, l5⟩ := sv_lens l4
  obtain rfl := sv_len0 l5
  clear l0 l1 l2 l3 l4 l5 hl
  have ba : 0 ≤ xa := (hb 0 _ _ rfl rfl).1
  clear hb
  have h0 := hf _ (List.mem_of_getElem? (i := 0) rfl)
  simp [sv_FQk, sv_FQ, sv_evs, sv_ev, sv_evT, sv_nth, sv_adq, sv_gs, q_Ks_33, q_Q_33] at h0
  have h1 := hf _ (List.mem_of_getElem? (i := 1) rfl)
  simp [sv_FQk, sv_FQ, sv_evs, sv_ev, sv_evT, sv_nth, sv_adq, sv_gs, q_Ks_33, q_Q_33] at h1
  clear hf
  obtain ⟨⟨-, Ka⟩, h0⟩ := h0
  rw [sv_Qlin_iff] at h0
  obtain ⟨⟨-, Ka⟩, h1⟩ := h1
  rw [sv_Qlin_iff] at h1
  intro f hf
  have hf : f ∈ [(49, [], [(0, [(0, 1)]), (0, [(1, 1)]), (0, [(3, 1)]), (0, [(4, 1)]), (0, [(5, 1)])])] := hf
  simp only [List.mem_cons, List.not_mem_nil, or_false] at hf
  subst hf
  · simp [sv_FQk, sv_FQ, sv_evs, sv_ev, sv_evT, sv_nth, sv_adq, sv_gs, q_Ks_33, q_Q_33]
    refine ⟨⟨ba, Ka⟩, ?_⟩
    rw [sv_Qlin_iff]
    intro j j1 j2
    by_cases e : j < xmi
    · exact h0 j j1 e
    · exact h1 j (by omega) j2
-- wf_app
def q_l166 : SvM := ([(0, none), (-1180591620717411303424, none), (-1180591620717411303424, none), (-1180591620717411303424, none), (-1180591620717411303424, none), (-1180591620717411303424, none), (-1180591620717411303424, none)], [(49, [], [(0, [(0, 1)]), (0, [(1, 1)]), (0, [(2, 1)]), (0, [(3, 1)]), (0, [(4, 1)])]), (4, [99, 1], [(0, [(0, 1)]), (0, [(2, 1)]), (0, [(5, 1)])]), (2, [], [(0, [(0, 1)]), (0, [(6, 1)])]), (0, [], [(0, [(2, 1)])]), (0, [], [(-1, [(2, -1), (6, 1)])]), (0, [], [(0, [(3, -1), (5, 1)])]), (0, [], [(0, [(4, 1), (5, -1)])])], [(49, [], [(0, [(0, 1)]), (0, [(1, 1)]), (1, [(2, 1)]), (0, [(3, 1)]), (0, [(4, 1)])])])
theorem q_l166_ok : ∀ (g : Int → Int → Int) (ln : Int → Int) (kf : Int → Nat) (ρ : List Int), sv_BOk ρ q_l166.1 → (∀ f ∈ q_l166.2.1, sv_FQk q_Ks q_Q g ln kf ρ f) → ∀ f ∈ q_l166.2.2, sv_FQk q_Ks q_Q g ln kf ρ f := by
  intro g ln kf ρ hb hf
  obtain ⟨hl, hb⟩ := hb
  obtain ⟨xa, r0, rfl, l0⟩ := sv_lens hl
  obtain ⟨xlo, r1, rfl, l1⟩ := sv_lens l0
  obtain ⟨xhi, r2, rfl, l2⟩ := sv_lens l1
  obtain ⟨xl, r3, rfl, l3⟩ := sv_lens l2
  obtain ⟨xu, r4, rfl, l4⟩ := sv_lens l3
  obtain ⟨xx, r5, rfl, l5⟩ := sv_lens l4
  obtain ⟨xN, r6, rfl, l6⟩ := sv_lens l5
  obtain rfl := sv_len0 l6
  clear l0 l1 l2 l3 l4 l5 l6 hl
  have ba : 0 ≤ xa := (hb 0 _ _ rfl rfl).1
  clear hb
  have h0 := hf _ (List.mem_of_getElem? (i := 0) rfl)
  simp [sv_FQk, sv_FQ, sv_evs, sv_ev, sv_evT, sv_nth, sv_adq, sv_gs, q_Ks_33, q_Q_33] at h0
  have h1 := hf _ (List.mem_of_getElem? (i := 1) rfl)
  simp [sv_FQk, sv_FQ, sv_evs, sv_ev, sv_evT, sv_nth, sv_adq, sv_gs] at h1
  have h2 := hf _ (List.mem_of_getElem? (i := 2) rfl)
  simp [sv_FQk, sv_FQ, sv_evs, sv_ev, sv_evT, sv_nth, sv_adq, sv_gs] at h2
  have h3 := hf _ (List.mem_of_getElem? (i := 3) rfl)
  simp [sv_FQk, sv_FQ, sv_evs, sv_ev, sv_evT, sv_nth, sv_adq, sv_gs] at h3
  have h4 := hf _ (List.mem_of_getElem? (i := 4) rfl)
  simp [sv_FQk, sv_FQ, sv_evs, sv_ev, sv_evT, sv_nth, sv_adq, sv_gs] at h4
  have h5 := hf _ (List.mem_of_getElem? (i := 5) rfl)
  simp [sv_FQk, sv_FQ, sv_evs, sv_ev, sv_evT, sv_nth, sv_adq, sv_gs] at h5
  have h6 := hf _ (List.mem_of_getElem? (i := 6) rfl)
  simp [sv_FQk, sv_FQ, sv_evs, sv_ev, sv_evT, sv_nth, sv_adq, sv_gs] at h6
  clear hf
  obtain ⟨⟨-, Ka⟩, h0⟩ := h0
  rw [sv_Qlin_iff] at h0
  replace h1 := h1 ba (by omega) (by have := h2 ba; omega)
  intro f hf
  have hf : f ∈ [(49, [], [(0, [(0, 1)]), (0, [(1, 1)]), (1, [(2, 1)]), (0, [(3, 1)]), (0, [(4, 1)])])] := hf
  simp only [List.mem_cons, List.not_mem_nil, or_false] at hf
  subst hf
  · simp [sv_FQk, sv_FQ, sv_evs, sv_ev, sv_evT, sv_nth, sv_adq, sv_gs, q_Ks_33, q_Q_33]
    refine ⟨⟨ba, Ka⟩, ?_⟩
    rw [sv_Qlin_iff]
    intro j j1 j2
    by_cases e : j = xhi
    · subst e
      rw [h1]
      omega
    · exact h0 j j1 (by omega)
-- wf_aw
def q_l167 : SvM := ([(0, none), (-1180591620717411303424, none), (-1180591620717411303424, none), (-1180591620717411303424, none), (-1180591620717411303424, none), (-1180591620717411303424, none), (-1180591620717411303424, none), (-1180591620717411303424, none)], [(49, [], [(0, [(0, 1)]), (0, [(1, 1)]), (0, [(2, 1)]), (0, [(3, 1)]), (0, [(4, 1)])]), (4, [99, 1], [(0, [(0, 1)]), (0, [(2, 1)]), (0, [(5, 1)])]), (2, [], [(0, [(0, 1)]), (0, [(6, 1)])]), (0, [], [(0, [(2, 1)])]), (0, [], [(-1, [(2, -1), (6, 1)])]), (0, [], [(0, [(4, -1), (7, 1)])]), (0, [], [(0, [(3, -1), (5, 1)])]), (0, [], [(0, [(5, -1), (7, 1)])])], [(49, [], [(0, [(0, 1)]), (0, [(1, 1)]), (1, [(2, 1)]), (0, [(3, 1)]), (0, [(7, 1)])])])
theorem q_l167_ok : ∀ (g : Int → Int → Int) (ln : Int → Int) (kf : Int → Nat) (ρ : List Int), sv_BOk ρ q_l167.1 → (∀ f ∈ q_l167.2.1, sv_FQk q_Ks q_Q g ln kf ρ f) → ∀ f ∈ q_l167.2.2, sv_FQk q_Ks q_Q g ln kf ρ f := by
  intro g ln kf ρ hb hf
  obtain ⟨hl, hb⟩ := hb
  obtain ⟨xa, r0, rfl, l0⟩ := sv_lens hl
  obtain ⟨xlo, r1, rfl, l1⟩ := sv_lens l0
  obtain ⟨xhi, r2, rfl, l2⟩ := sv_lens l1
  obtain ⟨xl, r3, rfl, l3⟩ := sv_lens l2
  obtain ⟨xu, r4, rfl, l4⟩ := sv_lens l3
  obtain ⟨xx, r5, rfl, l5⟩ := sv_lens l4
  obtain ⟨xN, r6, rfl, l6⟩ := sv_lens l5
  obtain ⟨xup, r7, rfl, l7⟩ := sv_lens l6
  obtain rfl := sv_len0 l7
  clear l0 l1 l2 l3 l4 l5 l6 l7 hl
  have ba : 0 ≤ xa := (hb 0 _ _ rfl rfl).1
  clear hb
  have h0 := hf _ (List.mem_of_getElem? (i := 0) rfl)
  simp [sv_FQk, sv_FQ, sv_evs, sv_ev, sv_evT, sv_nth, sv_adq, sv_gs, q_Ks_33, q_Q_33] at h0
  have h1 := hf _ (List.mem_of_getElem? (i := 1) rfl)
  simp [sv_FQk, sv_FQ, sv_evs, sv_ev, sv_evT, sv_nth, sv_adq, sv_gs] at h1
  have h2 := hf _ (List.mem_of_getElem? (i := 2) rfl)
  simp [sv_FQk, sv_FQ, sv_evs, sv_ev, sv_evT, sv_nth, sv_adq, sv_gs] at h2
  have h3 := hf _ (List.mem_of_getElem? (i := 3) rfl)
  simp [sv_FQk, sv_FQ, sv_evs, sv_ev, sv_evT, sv_nth, sv_adq, sv_gs] at h3
  have h4 := hf _ (List.mem_of_getElem? (i := 4) rfl)
  simp [sv_FQk, sv_FQ, sv_evs, sv_ev, sv_evT, sv_nth, sv_adq, sv_gs] at h4
  have h5 := hf _ (List.mem_of_getElem? (i := 5) rfl)
  simp [sv_FQk, sv_FQ, sv_evs, sv_ev, sv_evT, sv_nth, sv_adq, sv_gs] at h5
  have h6 := hf _ (List.mem_of_getElem? (i := 6) rfl)
  simp [sv_FQk, sv_FQ, sv_evs, sv_ev, sv_evT, sv_nth, sv_adq, sv_gs] at h6
  have h7 := hf _ (List.mem_of_getElem? (i := 7) rfl)
  simp [sv_FQk, sv_FQ, sv_evs, sv_ev, sv_evT, sv_nth, sv_adq, sv_gs] at h7
  clear hf
  obtain ⟨⟨-, Ka⟩, h0⟩ := h0
  rw [sv_Qlin_iff] at h0
  replace h1 := h1 ba (by omega) (by have := h2 ba; omega)
  intro f hf
  have hf : f ∈ [(49, [], [(0, [(0, 1)]), (0, [(1, 1)]), (1, [(2, 1)]), (0, [(3, 1)]), (0, [(7, 1)])])] := hf
  simp only [List.mem_cons, List.not_mem_nil, or_false] at hf
  subst hf
  · simp [sv_FQk, sv_FQ, sv_evs, sv_ev, sv_evT, sv_nth, sv_adq, sv_gs, q_Ks_33, q_Q_33]
    refine ⟨⟨ba, Ka⟩, ?_⟩
    rw [sv_Qlin_iff]
    intro j j1 j2
    by_cases e : j = xhi
    · subst e
      rw [h1]
      omega
    · have q := h0 j j1 (by omega)
      omega
-- cp_0
def q_l168 : SvM := ([(0, none), (0, none), (0, none), (-1180591620717411303424, none), (-1180591620717411303424, none), (-1180591620717411303424, none), (-1180591620717411303424, none)], [(1, [99], [(0, [(0, 1)])]), (1, [100], [(0, [(1, 1)])]), (1, [93], [(0, [(2, 1)])]), (0, [], [(0, [(4, -1)])]), (0, [], [(0, [(6, 1)])])], [(50, [], [(0, [(0, 1)]), (0, [(1, 1)]), (0, [(2, 1)]), (0, [(3, 1)]), (0, [(4, 1)]), (0, [(5, 1)]), (0, [(6, 1)])])])
theorem q_l168_ok : ∀ (g : Int → Int → Int) (ln : Int → Int) (kf : Int → Nat) (ρ : List Int), sv_BOk ρ q_l168.1 → (∀ f ∈ q_l168.2.1, sv_FQk q_Ks q_Q g ln kf ρ f) → ∀ f ∈ q_l168.2.2, sv_FQk q_Ks q_Q g ln kf ρ f := by
  intro g ln kf ρ hb hf
  obtain ⟨hl, hb⟩ := hb
  obtain ⟨xf, r0, rfl, l0⟩ := sv_lens hl
  obtain ⟨xw, r1, rfl, l1⟩ := sv_lens l0
  obtain ⟨xm, r2, rfl, l2⟩ := sv_lens l1
  obtain ⟨xb, r3, rfl, l3⟩ := sv_lens l2
  obtain ⟨xn, r4, rfl, l4⟩ := sv_lens l3
  obtain ⟨xr, r5, rfl, l5⟩ := sv_lens l4
  obtain ⟨xs, r6, rfl, l6⟩ := sv_lens l5
  obtain rfl := sv_len0 l6
  clear l0 l1 l2 l3 l4 l5 l6 hl
  have bf : 0 ≤ xf := (hb 0 _ _ rfl rfl).1
  have bw : 0 ≤ xw := (hb 1 _ _ rfl rfl).1
  have bm : 0 ≤ xm := (hb 2 _ _ rfl rfl).1
  clear hb
  have h0 := hf _ (List.mem_of_getElem? (i := 0) rfl)
  simp [sv_FQk, sv_FQ, sv_evs, sv_ev, sv_evT, sv_nth, sv_adq, sv_gs] at h0
  have h1 := hf _ (List.mem_of_getElem? (i := 1) rfl)
  simp [sv_FQk, sv_FQ, sv_evs, sv_ev, sv_evT, sv_nth, sv_adq, sv_gs] at h1
  have h2 := hf _ (List.mem_of_getElem? (i := 2) rfl)
  simp [sv_FQk, sv_FQ, sv_evs, sv_ev, sv_evT, sv_nth, sv_adq, sv_gs] at h2
  have h3 := hf _ (List.mem_of_getElem? (i := 3) rfl)
  simp [sv_FQk, sv_FQ, sv_evs, sv_ev, sv_evT, sv_nth, sv_adq, sv_gs] at h3
  have h4 := hf _ (List.mem_of_getElem? (i := 4) rfl)
  simp [sv_FQk, sv_FQ, sv_evs, sv_ev, sv_evT, sv_nth, sv_adq, sv_gs] at h4
  clear hf
  have Kf : kf xf = 99 := by omega
  have Kw : kf xw = 100 := by omega
  have Km : kf xm = 93 := by omega
  intro f hf
  have hf : f ∈ [(50, [], [(0, [(0, 1)]), (0, [(1, 1)]), (0, [(2, 1)]), (0, [(3, 1)]), (0, [(4, 1)]), (0, [(5, 1)]), (0, [(6, 1)])])] := hf
  simp only [List.mem_cons, List.not_mem_nil, or_false] at hf
  subst hf
  · simp [sv_FQk, sv_FQ, sv_evs, sv_ev, sv_evT, sv_nth, sv_adq, sv_gs, q_Ks_34, q_Q_34]
    refine ⟨⟨⟨bf, Kf⟩, ⟨bw, Kw⟩, ⟨bm, Km⟩⟩, ?_⟩
    rw [sv_Qcp_iff]
    have e : xn.toNat = 0 := by omega
    rw [e]
    exact ⟨fun i i1 i2 => absurd i2 (by omega), by simp only [sv_sum]; omega⟩
-- cp_n
def q_l169 : SvM := ([(0, none), (0, none), (0, none), (-1180591620717411303424, none), (-1180591620717411303424, none), (-1180591620717411303424, none), (-1180591620717411303424, none)], [(50, [], [(0, [(0, 1)]), (0, [(1, 1)]), (0, [(2, 1)]), (0, [(3, 1)]), (0, [(4, 1)]), (0, [(5, 1)]), (0, [(6, 1)])])], [(0, [], [(0, [(6, 1)])])])
theorem q_l169_ok : ∀ (g : Int → Int → Int) (ln : Int → Int) (kf : Int → Nat) (ρ : List Int), sv_BOk ρ q_l169.1 → (∀ f ∈ q_l169.2.1, sv_FQk q_Ks q_Q g ln kf ρ f) → ∀ f ∈ q_l169.2.2, sv_FQk q_Ks q_Q g ln kf ρ f := by
  intro g ln kf ρ hb hf
  obtain ⟨hl, hb⟩ := hb
  obtain ⟨xf, r0, rfl, l0⟩ := sv_lens hl
  obtain ⟨xw, r1, rfl, l1⟩ := sv_lens l0
  obtain ⟨xm, r2, rfl, l2⟩ := sv_lens l1
  obtain ⟨xb, r3, rfl, l3⟩ := sv_lens l2
  obtain ⟨xn, r4, rfl, l4⟩ := sv_lens l3
  obtain ⟨xr, r5, rfl, l5⟩ := sv_lens l4
  obtain ⟨xs, r6, rfl, l6⟩ := sv_lens l5
  obtain rfl := sv_len0 l6
  clear l0 l1 l2 l3 l4 l5 l6 hl
  have bf : 0 ≤ xf := (hb 0 _ _ rfl rfl).1
  have bw : 0 ≤ xw := (hb 1 _ _ rfl rfl).1
  have bm : 0 ≤ xm := (hb 2 _ _ rfl rfl).1
  clear hb
  have h0 := hf _ (List.mem_of_getElem? (i := 0) rfl)
  simp [sv_FQk, sv_FQ, sv_evs, sv_ev, sv_evT, sv_nth, sv_adq, sv_gs, q_Ks_34, q_Q_34] at h0
  clear hf
  obtain ⟨⟨⟨-, Kf⟩, ⟨-, Kw⟩, ⟨-, Km⟩⟩, h0⟩ := h0
  rw [sv_Qcp_iff] at h0
  intro f hf
  have hf : f ∈ [(0, [], [(0, [(6, 1)])])] := hf
  simp only [List.mem_cons, List.not_mem_nil, or_false] at hf
  subst hf
  · simp [sv_FQk, sv_FQ, sv_evs, sv_ev, sv_evT, sv_nth, sv_adq, sv_gs]
    have q := sv_sum_nn (f := fun i => sv_cap (g xf) (g xm) xb xr i - g xw i) (n := xn.toNat) (fun i i1 i2 => by
      have := h0.1 i i1 (by omega)
      show 0 ≤ sv_cap (g xf) (g xm) xb xr i - g xw i
      omega)
    have := h0.2
    omega
-- cp_p
def q_l170 : SvM := ([(0, none), (0, none), (0, none), (-1180591620717411303424, none), (-1180591620717411303424, none), (-1180591620717411303424, none), (-1180591620717411303424, none)], [(50, [], [(0, [(0, 1)]), (0, [(1, 1)]), (0, [(2, 1)]), (0, [(3, 1)]), (1, [(4, 1)]), (0, [(5, 1)]), (0, [(6, 1)])]), (0, [], [(0, [(4, 1)])])], [(50, [], [(0, [(0, 1)]), (0, [(1, 1)]), (0, [(2, 1)]), (0, [(3, 1)]), (0, [(4, 1)]), (0, [(5, 1)]), (0, [(6, 1)])])])
theorem q_l170_ok : ∀ (g : Int → Int → Int) (ln : Int → Int) (kf : Int → Nat) (ρ : List Int), sv_BOk ρ q_l170.1 → (∀ f ∈ q_l170.2.1, sv_FQk q_Ks q_Q g ln kf ρ f) → ∀ f ∈ q_l170.2.2, sv_FQk q_Ks q_Q g ln kf ρ f := by
  intro g ln kf ρ hb hf
  obtain ⟨hl, hb⟩ := hb
  obtain ⟨xf, r0, rfl, l0⟩ := sv_lens hl
  obtain ⟨xw, r1, rfl, l1⟩ := sv_lens l0
  obtain ⟨xm, r2, rfl, l2⟩ := sv_lens l1
  obtain ⟨xb, r3, rfl, l3⟩ := sv_lens l2
  obtain ⟨xn, r4, rfl, l4⟩ := sv_lens l3
  obtain ⟨xr, r5, rfl, l5⟩ := sv_lens l4
  obtain ⟨xs, r6, rfl, l6⟩ := sv_lens l5
  obtain rfl := sv_len0 l6
  clear l0 l1 l2 l3 l4 l5 l6 hl
  have bf : 0 ≤ xf := (hb 0 _ _ rfl rfl).1
  have bw : 0 ≤ xw := (hb 1 _ _ rfl rfl).1
  have bm : 0 ≤ xm := (hb 2 _ _ rfl rfl).1
  clear hb
  have h0 := hf _ (List.mem_of_getElem? (i := 0) rfl)
  simp [sv_FQk, sv_FQ, sv_evs, sv_ev, sv_evT, sv_nth, sv_adq, sv_gs, q_Ks_34, q_Q_34] at h0
  have h1 := hf _ (List.mem_of_getElem? (i := 1) rfl)
  simp [sv_FQk, sv_FQ, sv_evs, sv_ev, sv_evT, sv_nth, sv_adq, sv_gs] at h1
  clear hf
  obtain ⟨⟨⟨-, Kf⟩, ⟨-, Kw⟩, ⟨-, Km⟩⟩, h0⟩ := h0
  rw [sv_Qcp_iff] at h0
  intro f hf
  have hf : f ∈ [(50, [], [(0, [(0, 1)]), (0, [(1, 1)]), (0, [(2, 1)]), (0, [(3, 1)]), (0, [(4, 1)]), (0, [(5, 1)]), (0, [(6, 1)])])] := hf
  simp only [List.mem_cons, List.not_mem_nil, or_false] at hf
  subst hf
  · simp [sv_FQk, sv_FQ, sv_evs, sv_ev, sv_evT, sv_nth, sv_adq, sv_gs, q_Ks_34, q_Q_34]
    refine ⟨⟨⟨bf, Kf⟩, ⟨bw, Kw⟩, ⟨bm, Km⟩⟩, ?_⟩
    rw [sv_Qcp_iff]
    refine ⟨fun i i1 i2 => h0.1 i i1 (by omega), ?_⟩
    have q := h0.2
    rw [sv_sum_step2 (by omega)] at q
    have r := h0.1 xn (by omega) (by omega)
    omega
-- cp_a1
def q_l171 : SvM := ([(0, none), (0, none), (0, none), (-1180591620717411303424, none), (-1180591620717411303424, none), (-1180591620717411303424, none), (-1180591620717411303424, none), (-1180591620717411303424, none), (-1180591620717411303424, none), (-1180591620717411303424, none), (-1180591620717411303424, none)], [(50, [], [(0, [(0, 1)]), (0, [(1, 1)]), (0, [(2, 1)]), (0, [(3, 1)]), (0, [(4, 1)]), (0, [(5, 1)]), (0, [(6, 1)])]), (4, [99, 1], [(0, [(0, 1)]), (0, [(4, 1)]), (0, [(7, 1)])]), (2, [], [(0, [(0, 1)]), (0, [(8, 1)])]), (0, [], [(0, [(4, 1)])]), (0, [], [(-1, [(4, -1), (8, 1)])]), (4, [100, 1], [(0, [(1, 1)]), (0, [(4, 1)]), (0, [(9, 1)])]), (2, [], [(0, [(1, 1)]), (0, [(10, 1)])]), (0, [], [(-1, [(4, -1), (10, 1)])]), (0, [], [(0, [(9, -1)])]), (0, [], [(0, [(9, 1)])]), (0, [], [(-1, [(7, -1)])]), (0, [], [(0, [(5, 1)])])], [(50, [], [(0, [(0, 1)]), (0, [(1, 1)]), (0, [(2, 1)]), (0, [(3, 1)]), (1, [(4, 1)]), (0, [(5, 1)]), (0, [(5, 1), (6, 1)])])])
theorem q_l171_ok : ∀ (g : Int → Int → Int) (ln : Int → Int) (kf : Int → Nat) (ρ : List Int), sv_BOk ρ q_l171.1 → (∀ f ∈ q_l171.2.1, sv_FQk q_Ks q_Q g ln kf ρ f) → ∀ f ∈ q_l171.2.2, sv_FQk q_Ks q_Q g ln kf ρ f := by
  intro g ln kf ρ hb hf
  obtain ⟨hl, hb⟩ := hb
  obtain ⟨xf, r0, rfl, l0⟩ := sv_lens hl
  obtain ⟨xw, r1, rfl, l1⟩ := sv_lens l0
  obtain ⟨xm, r2, rfl, l2⟩ := sv_lens l1
  obtain ⟨xb, r3, rfl, l3⟩ := sv_lens l2
  obtain ⟨xn, r4, rfl, l4⟩ := sv_lens l3
  obtain ⟨xr, r5, rfl, l5⟩ := sv_lens l4
  obtain ⟨xs, r6, rfl, l6⟩ := sv_lens l5
  obtain ⟨xx, r7, rfl, l7⟩ := sv_lens l6
  obtain ⟨xNF, r8, rfl, l8⟩ := sv_lens l7
  obtain ⟨xy, r9, rfl, l9⟩ := sv_lens l8
  obtain ⟨xNW, r10, rfl, l10⟩ := sv_lens l9
  obtain rfl := sv_len0 l10
  clear l0 l1 l2 l3 l4 l5 l6 l7 l8 l9 l10 hl
  have bf : 0 ≤ xf := (hb 0 _ _ rfl rfl).1
  have bw : 0 ≤ xw := (hb 1 _ _ rfl rfl).1
  have bm : 0 ≤ xm := (hb 2 _ _ rfl rfl).1
  clear hb
  have h0 := hf _ (List.mem_of_getElem? (i := 0) rfl)
  simp [sv_FQk, sv_FQ, sv_evs, sv_ev, sv_evT, sv_nth, sv_adq, sv_gs, q_Ks_34, q_Q_34] at h0
  have h1 := hf _ (List.mem_of_getElem? (i := 1) rfl)
  simp [sv_FQk, sv_FQ, sv_evs, sv_ev, sv_evT, sv_nth, sv_adq, sv_gs] at h1
  have h2 := hf _ (List.mem_of_getElem? (i := 2) rfl)
  simp [sv_FQk, sv_FQ, sv_evs, sv_ev, sv_evT, sv_nth, sv_adq, sv_gs] at h2
  have h3 := hf _ (List.mem_of_getElem? (i := 3) rfl)
  simp [sv_FQk, sv_FQ, sv_evs, sv_ev, sv_evT, sv_nth, sv_adq, sv_gs] at h3
  have h4 := hf _ (List.mem_of_getElem? (i := 4) rfl)
  simp [sv_FQk, sv_FQ, sv_evs, sv_ev, sv_evT, sv_nth, sv_adq, sv_gs] at h4
  have h5 := hf _ (List.mem_of_getElem? (i := 5) rfl)
  simp [sv_FQk, sv_FQ, sv_evs, sv_ev, sv_evT, sv_nth, sv_adq, sv_gs] at h5
  have h6 := hf _ (List.mem_of_getElem? (i := 6) rfl)
  simp [sv_FQk, sv_FQ, sv_evs, sv_ev, sv_evT, sv_nth, sv_adq, sv_gs] at h6
  have h7 := hf _ (List.mem_of_getElem? (i := 7) rfl)
  simp [sv_FQk, sv_FQ, sv_evs, sv_ev, sv_evT, sv_nth, sv_adq, sv_gs] at h7
  have h8 := hf _ (List.mem_of_getElem? (i := 8) rfl)
  simp [sv_FQk, sv_FQ, sv_evs, sv_ev, sv_evT, sv_nth, sv_adq, sv_gs] at h8
  have h9 := hf _ (List.mem_of_getElem? (i := 9) rfl)
  simp [sv_FQk, sv_FQ, sv_evs, sv_ev, sv_evT, sv_nth, sv_adq, sv_gs] at h9
  have h10 := hf _ (List.mem_of_getElem? (i := 10) rfl)
  simp [sv_FQk, sv_FQ, sv_evs, sv_ev, sv_evT, sv_nth, sv_adq, sv_gs] at h10
  have h11 := hf _ (List.mem_of_getElem? (i := 11) rfl)
  simp [sv_FQk, sv_FQ, sv_evs, sv_ev, sv_evT, sv_nth, sv_adq, sv_gs] at h11
  clear hf
  obtain ⟨⟨⟨-, Kf⟩, ⟨-, Kw⟩, ⟨-, Km⟩⟩, h0⟩ := h0
  rw [sv_Qcp_iff] at h0
  replace h1 := h1 bf (by omega) (by have := h2 bf; omega)
  replace h5 := h5 bw (by omega) (by have := h6 bw; omega)
  intro f hf
  have hf : f ∈ [(50, [], [(0, [(0, 1)]), (0, [(1, 1)]), (0, [(2, 1)]), (0, [(3, 1)]), (1, [(4, 1)]), (0, [(5, 1)]), (0, [(5, 1), (6, 1)])])] := hf
  simp only [List.mem_cons, List.not_mem_nil, or_false] at hf
  subst hf
  · simp [sv_FQk, sv_FQ, sv_evs, sv_ev, sv_evT, sv_nth, sv_adq, sv_gs, q_Ks_34, q_Q_34]
    refine ⟨⟨⟨bf, Kf⟩, ⟨bw, Kw⟩, ⟨bm, Km⟩⟩, ?_⟩
    rw [sv_Qcp_iff]
    have c : sv_cap (g xf) (g xm) xb xr xn = xr := by
      unfold sv_cap
      rw [h1]
      exact if_pos (by omega)
    refine ⟨fun i i1 i2 => ?_, ?_⟩
    · by_cases e : i = xn
      · rw [e, c, h5]
        omega
      · exact h0.1 i i1 (by omega)
    · rw [sv_sum_step2 (by omega), c, h5]
      have := h0.2
      omega
-- cp_a2
def q_l172 : SvM := ([(0, none), (0, none), (0, none), (-1180591620717411303424, none), (-1180591620717411303424, none), (-1180591620717411303424, none), (-1180591620717411303424, none), (-1180591620717411303424, none), (-1180591620717411303424, none), (-1180591620717411303424, none), (-1180591620717411303424, none), (-1180591620717411303424, none), (-1180591620717411303424, none)], [(50, [], [(0, [(0, 1)]), (0, [(1, 1)]), (0, [(2, 1)]), (0, [(3, 1)]), (0, [(4, 1)]), (0, [(5, 1)]), (0, [(6, 1)])]), (4, [99, 1], [(0, [(0, 1)]), (0, [(4, 1)]), (0, [(7, 1)])]), (2, [], [(0, [(0, 1)]), (0, [(8, 1)])]), (0, [], [(0, [(4, 1)])]), (0, [], [(-1, [(4, -1), (8, 1)])]), (4, [100, 1], [(0, [(1, 1)]), (0, [(4, 1)]), (0, [(9, 1)])]), (2, [], [(0, [(1, 1)]), (0, [(10, 1)])]), (0, [], [(-1, [(4, -1), (10, 1)])]), (0, [], [(0, [(9, -1)])]), (0, [], [(0, [(9, 1)])]), (0, [], [(0, [(7, 1)])]), (4, [93, 1], [(0, [(2, 1)]), (0, [(3, 1), (7, 1)]), (0, [(11, 1)])]), (2, [], [(0, [(2, 1)]), (0, [(12, 1)])]), (0, [], [(0, [(3, 1)])]), (0, [], [(-1, [(3, -1), (7, -1), (12, 1)])]), (0, [], [(0, [(11, 1)])])], [(50, [], [(0, [(0, 1)]), (0, [(1, 1)]), (0, [(2, 1)]), (0, [(3, 1)]), (1, [(4, 1)]), (0, [(5, 1)]), (0, [(6, 1), (11, 2)])])])
theorem q_l172_ok : ∀ (g : Int → Int → Int) (ln : Int → Int) (kf : Int → Nat) (ρ : List Int), sv_BOk ρ q_l172.1 → (∀ f ∈ q_l172.2.1, sv_FQk q_Ks q_Q g ln kf ρ f) → ∀ f ∈ q_l172.2.2, sv_FQk q_Ks q_Q g ln kf ρ f := by
  intro g ln kf ρ hb hf
  obtain ⟨hl, hb⟩ := hb
  obtain ⟨xf, r0, rfl, l0⟩ := sv_lens hl
  obtain ⟨xw, r1, rfl, l1⟩ := sv_lens l0
  obtain ⟨xm, r2, rfl, l2⟩ := sv_lens l1
  obtain ⟨xb, r3, rfl, l3⟩ := sv_lens l2
  obtain ⟨xn, r4, rfl, l4⟩ := sv_lens l3
  obtain ⟨xr, r5, rfl, l5⟩ := sv_lens l4
  obtain ⟨xs, r6, rfl, l6⟩ := sv_lens l5
  obtain ⟨xx, r7, rfl, l7⟩ := sv_lens l6
  obtain ⟨xNF, r8, rfl, l8⟩ := sv_lens l7
  obtain ⟨xy, r9, rfl, l9⟩ := sv_lens l8
  obtain ⟨xNW, r10, rfl, l10⟩ := sv_lens l9
  obtain ⟨xz, r11, rfl, l11⟩ := sv_lens l10
  obtain ⟨xNM, r12, rfl, l12⟩ := sv_lens l11
  obtain rfl := sv_len0 l12
  clear l0 l1 l2 l3 l4 l5 l6 l7 l8 l9 l10 l11 l12 hl
  have bf : 0 ≤ xf := (hb 0 _ _ rfl rfl).1
  have bw : 0 ≤ xw := (hb 1 _ _ rfl rfl).1
  have bm : 0 ≤ xm := (hb 2 _ _ rfl rfl).1
  clear hb
  have h0 := hf _ (List.mem_of_getElem? (i := 0) rfl)
  simp [sv_FQk, sv_FQ, sv_evs, sv_ev, sv_evT, sv_nth, sv_adq, sv_gs, q_Ks_34, q_Q_34] at h0
  have h1 := hf _ (List.mem_of_getElem? (i := 1) rfl)
  simp [sv_FQk, sv_FQ, sv_evs, sv_ev, sv_evT, sv_nth, sv_adq, sv_gs] at h1
  have h2 := hf _ (List.mem_of_getElem? (i := 2) rfl)
  simp [sv_FQk, sv_FQ, sv_evs, sv_ev, sv_evT, sv_nth, sv_adq, sv_gs] at h2
  have h3 := hf _ (List.mem_of_getElem? (i := 3) rfl)
  simp [sv_FQk, sv_FQ, sv_evs, sv_ev, sv_evT, sv_nth, sv_adq, sv_gs] at h3
  have h4 := hf _ (List.mem_of_getElem? (i := 4) rfl)
  simp [sv_FQk, sv_FQ, sv_evs, sv_ev, sv_evT, sv_nth, sv_adq, sv_gs] at h4
  have h5 := hf _ (List.mem_of_getElem? (i := 5) rfl)
  simp [sv_FQk, sv_FQ, sv_evs, sv_ev, sv_evT, sv_nth, sv_adq, sv_gs] at h5
  have h6 := hf _ (List.mem_of_getElem? (i := 6) rfl)
  simp [sv_FQk, sv_FQ, sv_evs, sv_ev, sv_evT, sv_nth, sv_adq, sv_gs] at h6
  have h7 := hf _ (List.mem_of_getElem? (i := 7) rfl)
  simp [sv_FQk, sv_FQ, sv_evs, sv_ev, sv_evT, sv_nth, sv_adq, sv_gs] at h7
  have h8 := hf _ (List.mem_of_getElem? (i := 8) rfl)
  simp [sv_FQk, sv_FQ, sv_evs, sv_ev, sv_evT, sv_nth, sv_adq, sv_gs] at h8
  have h9 := hf _ (List.mem_of_getElem? (i := 9) rfl)
  simp [sv_FQk, sv_FQ, sv_evs, sv_ev, sv_evT, sv_nth, sv_adq, sv_gs] at h9
  have h10 := hf _ (List.mem_of_getElem? (i := 10) rfl)
  simp [sv_FQk, sv_FQ, sv_evs, sv_ev, sv_evT, sv_nth, sv_adq, sv_gs] at h10
  have h11 := hf _ (List.mem_of_getElem? (i := 11) rfl)
  simp [sv_FQk, sv_FQ, sv_evs, sv_ev, sv_evT, sv_nth, sv_adq, sv_gs] at h11
  have h12 := hf _ (List.mem_of_getElem? (i := 12) rfl)
  simp [sv_FQk, sv_FQ, sv_evs, sv_ev, sv_evT, sv_nth, sv_adq, sv_gs] at h12
  have h13 := hf _ (List.mem_of_getElem? (i := 13) rfl)
  simp [sv_FQk, sv_FQ, sv_evs, sv_ev, sv_evT, sv_nth, sv_adq, sv_gs] at h13
  have h14 := hf _ (List.mem_of_getElem? (i := 14) rfl)
  simp [sv_FQk, sv_FQ, sv_evs, sv_ev, sv_evT, sv_nth, sv_adq, sv_gs] at h14
  have h15 := hf _ (List.mem_of_getElem? (i := 15) rfl)
  simp [sv_FQk, sv_FQ, sv_evs, sv_ev, sv_evT, sv_nth, sv_adq, sv_gs] at h15
  clear hf
  obtain ⟨⟨⟨-, Kf⟩, ⟨-, Kw⟩, ⟨-, Km⟩⟩, h0⟩ := h0
  rw [sv_Qcp_iff] at h0
  replace h1 := h1 bf (by omega) (by have := h2 bf; omega)
  replace h5 := h5 bw (by omega) (by have := h6 bw; omega)
  replace h11 := h11 bm (by omega) (by have := h12 bm; omega)
  intro f hf
  have hf : f ∈ [(50, [], [(0, [(0, 1)]), (0, [(1, 1)]), (0, [(2, 1)]), (0, [(3, 1)]), (1, [(4, 1)]), (0, [(5, 1)]), (0, [(6, 1), (11, 2)])])] := hf
  simp only [List.mem_cons, List.not_mem_nil, or_false] at hf
  subst hf
  · simp [sv_FQk, sv_FQ, sv_evs, sv_ev, sv_evT, sv_nth, sv_adq, sv_gs, q_Ks_34, q_Q_34]
    refine ⟨⟨⟨bf, Kf⟩, ⟨bw, Kw⟩, ⟨bm, Km⟩⟩, ?_⟩
    rw [sv_Qcp_iff]
    have u : g xm (xb + xx) = xz := sv_fat (by omega) h11
    have c : sv_cap (g xf) (g xm) xb xr xn = 2 * xz := by
      unfold sv_cap
      rw [h1, if_neg (by omega), u]
    refine ⟨fun i i1 i2 => ?_, ?_⟩
    · by_cases e : i = xn
      · rw [e, c, h5]
        omega
      · exact h0.1 i i1 (by omega)
    · rw [sv_sum_step2 (by omega), c, h5]
      have := h0.2
      omega
-- wk_e
def q_l173 : SvM := ([(0, none), (-1180591620717411303424, none), (-1180591620717411303424, none), (-1180591620717411303424, none)], [(45, [], [(0, [(0, 1)]), (0, [(1, 1)]), (0, [(2, 1)])]), (0, [], [(0, [(1, -1), (3, 1)])]), (0, [], [(0, [(1, 1), (3, -1)])])], [(45, [], [(0, [(0, 1)]), (0, [(3, 1)]), (0, [(2, 1)])])])
theorem q_l173_ok : ∀ (g : Int → Int → Int) (ln : Int → Int) (kf : Int → Nat) (ρ : List Int), sv_BOk ρ q_l173.1 → (∀ f ∈ q_l173.2.1, sv_FQk q_Ks q_Q g ln kf ρ f) → ∀ f ∈ q_l173.2.2, sv_FQk q_Ks q_Q g ln kf ρ f := by
  intro g ln kf ρ hb hf
  obtain ⟨hl, hb⟩ := hb
  obtain ⟨xa, r0, rfl, l0⟩ := sv_lens hl
  obtain ⟨xs, r1, rfl, l1⟩ := sv_lens l0
  obtain ⟨xp, r2, rfl, l2⟩ := sv_lens l1
  obtain ⟨xn, r3, rfl, l3⟩ := sv_lens l2
  obtain rfl := sv_len0 l3
  clear l0 l1 l2 l3 hl
  have ba : 0 ≤ xa := (hb 0 _ _ rfl rfl).1
  clear hb
  have h0 := hf _ (List.mem_of_getElem? (i := 0) rfl)
  simp [sv_FQk, sv_FQ, sv_evs, sv_ev, sv_evT, sv_nth, sv_adq, sv_gs, q_Ks_29, q_Q_29] at h0
  have h1 := hf _ (List.mem_of_getElem? (i := 1) rfl)
  simp [sv_FQk, sv_FQ, sv_evs, sv_ev, sv_evT, sv_nth, sv_adq, sv_gs] at h1
  have h2 := hf _ (List.mem_of_getElem? (i := 2) rfl)
  simp [sv_FQk, sv_FQ, sv_evs, sv_ev, sv_evT, sv_nth, sv_adq, sv_gs] at h2
  clear hf
  obtain ⟨⟨-, Ka⟩, h0⟩ := h0
  rw [sv_Qwk_iff] at h0
  intro f hf
  have hf : f ∈ [(45, [], [(0, [(0, 1)]), (0, [(3, 1)]), (0, [(2, 1)])])] := hf
  simp only [List.mem_cons, List.not_mem_nil, or_false] at hf
  subst hf
  · simp [sv_FQk, sv_FQ, sv_evs, sv_ev, sv_evT, sv_nth, sv_adq, sv_gs, q_Ks_29, q_Q_29]
    refine ⟨⟨ba, Ka⟩, ?_⟩
    rw [sv_Qwk_iff]
    have e : xn = xs := by omega
    rw [e]
    exact h0
-- cn_d
def q_l174 : SvM := ([(0, none), (-1180591620717411303424, none), (-1180591620717411303424, none), (-1180591620717411303424, none), (-1180591620717411303424, none)], [(4, [84, 1], [(0, [(0, 1)]), (0, [(1, 1)]), (0, [(3, 1)])]), (2, [], [(0, [(0, 1)]), (0, [(4, 1)])]), (0, [], [(0, [(1, 1)])]), (0, [], [(-1, [(1, -1), (4, 1)])]), (0, [], [(-1, [(2, -1), (3, 1)])]), (1, [84], [(0, [(0, 1)])])], [(51, [], [(0, [(0, 1)]), (0, [(1, 1)]), (0, [(2, 1)])])])
theorem q_l174_ok : ∀ (g : Int → Int → Int) (ln : Int → Int) (kf : Int → Nat) (ρ : List Int), sv_BOk ρ q_l174.1 → (∀ f ∈ q_l174.2.1, sv_FQk q_Ks q_Q g ln kf ρ f) → ∀ f ∈ q_l174.2.2, sv_FQk q_Ks q_Q g ln kf ρ f := by
  intro g ln kf ρ hb hf
  obtain ⟨hl, hb⟩ := hb
  obtain ⟨xa, r0, rfl, l0⟩ := sv_lens hl
  obtain ⟨xi, r1, rfl, l1⟩ := sv_lens l0
  obtain ⟨xk, r2, rfl, l2⟩ := sv_lens l1
  obtain ⟨xe, r3, rfl, l3⟩ := sv_lens l2
  obtain ⟨xN, r4, rfl, l4⟩ := sv_lens l3
  obtain rfl := sv_len0 l4
  clear l0 l1 l2 l3 l4 hl
  have ba : 0 ≤ xa := (hb 0 _ _ rfl rfl).1
  clear hb
  have h0 := hf _ (List.mem_of_getElem? (i := 0) rfl)
  simp [sv_FQk, sv_FQ, sv_evs, sv_ev, sv_evT, sv_nth, sv_adq, sv_gs] at h0
  have h1 := hf _ (List.mem_of_getElem? (i := 1) rfl)
  simp [sv_FQk, sv_FQ, sv_evs, sv_ev, sv_evT, sv_nth, sv_adq, sv_gs] at h1
  have h2 := hf _ (List.mem_of_getElem? (i := 2) rfl)
  simp [sv_FQk, sv_FQ, sv_evs, sv_ev, sv_evT, sv_nth, sv_adq, sv_gs] at h2
  have h3 := hf _ (List.mem_of_getElem? (i := 3) rfl)
  simp [sv_FQk, sv_FQ, sv_evs, sv_ev, sv_evT, sv_nth, sv_adq, sv_gs] at h3
  have h4 := hf _ (List.mem_of_getElem? (i := 4) rfl)
  simp [sv_FQk, sv_FQ, sv_evs, sv_ev, sv_evT, sv_nth, sv_adq, sv_gs] at h4
  have h5 := hf _ (List.mem_of_getElem? (i := 5) rfl)
  simp [sv_FQk, sv_FQ, sv_evs, sv_ev, sv_evT, sv_nth, sv_adq, sv_gs] at h5
  clear hf
  replace h0 := h0 ba (by omega) (by have := h1 ba; omega)
  have Ka : kf xa = 84 := by omega
  intro f hf
  have hf : f ∈ [(51, [], [(0, [(0, 1)]), (0, [(1, 1)]), (0, [(2, 1)])])] := hf
  simp only [List.mem_cons, List.not_mem_nil, or_false] at hf
  subst hf
  · simp [sv_FQk, sv_FQ, sv_evs, sv_ev, sv_evT, sv_nth, sv_adq, sv_gs, q_Ks_35, q_Q_35]
    refine ⟨⟨ba, Ka⟩, ?_⟩
    rw [sv_Qcn_iff]
    omega
-- cn_e
def q_l175 : SvM := ([(0, none), (-1180591620717411303424, none), (-1180591620717411303424, none), (-1180591620717411303424, none), (-1180591620717411303424, none)], [(51, [], [(0, [(0, 1)]), (0, [(1, 1)]), (0, [(2, 1)])]), (4, [84, 1], [(0, [(0, 1)]), (0, [(1, 1)]), (0, [(3, 1)])]), (2, [], [(0, [(0, 1)]), (0, [(4, 1)])]), (0, [], [(0, [(1, 1)])]), (0, [], [(-1, [(1, -1), (4, 1)])])], [(0, [], [(-1, [(2, -1), (3, 1)])])])
theorem q_l175_ok : ∀ (g : Int → Int → Int) (ln : Int → Int) (kf : Int → Nat) (ρ : List Int), sv_BOk ρ q_l175.1 → (∀ f ∈ q_l175.2.1, sv_FQk q_Ks q_Q g ln kf ρ f) → ∀ f ∈ q_l175.2.2, sv_FQk q_Ks q_Q g ln kf ρ f := by
  intro g ln kf ρ hb hf
  obtain ⟨hl, hb⟩ := hb
  obtain ⟨xa, r0, rfl, l0⟩ := sv_lens hl
  obtain ⟨xi, r1, rfl, l1⟩ := sv_lens l0
  obtain ⟨xk, r2, rfl, l2⟩ := sv_lens l1
  obtain ⟨xe, r3, rfl, l3⟩ := sv_lens l2
  obtain ⟨xN, r4, rfl, l4⟩ := sv_lens l3
  obtain rfl := sv_len0 l4
  clear l0 l1 l2 l3 l4 hl
  have ba : 0 ≤ xa := (hb 0 _ _ rfl rfl).1
  clear hb
  have h0 := hf _ (List.mem_of_getElem? (i := 0) rfl)
  simp [sv_FQk, sv_FQ, sv_evs, sv_ev, sv_evT, sv_nth, sv_adq, sv_gs, q_Ks_35, q_Q_35] at h0
  have h1 := hf _ (List.mem_of_getElem? (i := 1) rfl)
  simp [sv_FQk, sv_FQ, sv_evs, sv_ev, sv_evT, sv_nth, sv_adq, sv_gs] at h1
  have h2 := hf _ (List.mem_of_getElem? (i := 2) rfl)
  simp [sv_FQk, sv_FQ, sv_evs, sv_ev, sv_evT, sv_nth, sv_adq, sv_gs] at h2
  have h3 := hf _ (List.mem_of_getElem? (i := 3) rfl)
  simp [sv_FQk, sv_FQ, sv_evs, sv_ev, sv_evT, sv_nth, sv_adq, sv_gs] at h3
  have h4 := hf _ (List.mem_of_getElem? (i := 4) rfl)
  simp [sv_FQk, sv_FQ, sv_evs, sv_ev, sv_evT, sv_nth, sv_adq, sv_gs] at h4
  clear hf
  obtain ⟨⟨-, Ka⟩, h0⟩ := h0
  rw [sv_Qcn_iff] at h0
  replace h1 := h1 ba (by omega) (by have := h2 ba; omega)
  intro f hf
  have hf : f ∈ [(0, [], [(-1, [(2, -1), (3, 1)])])] := hf
  simp only [List.mem_cons, List.not_mem_nil, or_false] at hf
  subst hf
  · simp [sv_FQk, sv_FQ, sv_evs, sv_ev, sv_evT, sv_nth, sv_adq, sv_gs]
    omega
-- src_0
def q_l176 : SvM := ([(0, none), (0, none), (0, none), (0, none), (0, none), (0, none), (0, none), (-1180591620717411303424, none)], [(1, [97], [(0, [(0, 1)])]), (1, [98], [(0, [(1, 1)])]), (1, [84], [(0, [(2, 1)])]), (1, [75], [(0, [(3, 1)])]), (1, [76], [(0, [(4, 1)])]), (1, [77], [(0, [(5, 1)])]), (1, [78], [(0, [(6, 1)])]), (0, [], [(0, [(7, -1)])])], [(52, [], [(0, [(0, 1)]), (0, [(1, 1)]), (0, [(2, 1)]), (0, [(3, 1)]), (0, [(4, 1)]), (0, [(5, 1)]), (0, [(6, 1)]), (0, [(7, 1)])])])
theorem q_l176_ok : ∀ (g : Int → Int → Int) (ln : Int → Int) (kf : Int → Nat) (ρ : List Int), sv_BOk ρ q_l176.1 → (∀ f ∈ q_l176.2.1, sv_FQk q_Ks q_Q g ln kf ρ f) → ∀ f ∈ q_l176.2.2, sv_FQk q_Ks q_Q g ln kf ρ f := by
  intro g ln kf ρ hb hf
  obtain ⟨hl, hb⟩ := hb
  obtain ⟨xso, r0, rfl, l0⟩ := sv_lens hl
  obtain ⟨xsf, r1, rfl, l1⟩ := sv_lens l0
  obtain ⟨xen, r2, rfl, l2⟩ := sv_lens l1
  obtain ⟨xlv, r3, rfl, l3⟩ := sv_lens l2
  obtain ⟨xlo, r4, rfl, l4⟩ := sv_lens l3
  obtain ⟨xcu, r5, rfl, l5⟩ := sv_lens l4
  obtain ⟨xns, r6, rfl, l6⟩ := sv_lens l5
  obtain ⟨xn, r7, rfl, l7⟩ := sv_lens l6
  obtain rfl := sv_len0 l7
  clear l0 l1 l2 l3 l4 l5 l6 l7 hl
  have bso : 0 ≤ xso := (hb 0 _ _ rfl rfl).1
  have bsf : 0 ≤ xsf := (hb 1 _ _ rfl rfl).1
  have ben : 0 ≤ xen := (hb 2 _ _ rfl rfl).1
  have blv : 0 ≤ xlv := (hb 3 _ _ rfl rfl).1
  have blo : 0 ≤ xlo := (hb 4 _ _ rfl rfl).1
  have bcu : 0 ≤ xcu := (hb 5 _ _ rfl rfl).1
  have bns : 0 ≤ xns := (hb 6 _ _ rfl rfl).1
  clear hb
  have h0 := hf _ (List.mem_of_getElem? (i := 0) rfl)
  simp [sv_FQk, sv_FQ, sv_evs, sv_ev, sv_evT, sv_nth, sv_adq, sv_gs] at h0
  have h1 := hf _ (List.mem_of_getElem? (i := 1) rfl)
  simp [sv_FQk, sv_FQ, sv_evs, sv_ev, sv_evT, sv_nth, sv_adq, sv_gs] at h1
  have h2 := hf _ (List.mem_of_getElem? (i := 2) rfl)
  simp [sv_FQk, sv_FQ, sv_evs, sv_ev, sv_evT, sv_nth, sv_adq, sv_gs] at h2
  have h3 := hf _ (List.mem_of_getElem? (i := 3) rfl)
  simp [sv_FQk, sv_FQ, sv_evs, sv_ev, sv_evT, sv_nth, sv_adq, sv_gs] at h3
  have h4 := hf _ (List.mem_of_getElem? (i := 4) rfl)
  simp [sv_FQk, sv_FQ, sv_evs, sv_ev, sv_evT, sv_nth, sv_adq, sv_gs] at h4
  have h5 := hf _ (List.mem_of_getElem? (i := 5) rfl)
  simp [sv_FQk, sv_FQ, sv_evs, sv_ev, sv_evT, sv_nth, sv_adq, sv_gs] at h5
  have h6 := hf _ (List.mem_of_getElem? (i := 6) rfl)
  simp [sv_FQk, sv_FQ, sv_evs, sv_ev, sv_evT, sv_nth, sv_adq, sv_gs] at h6
  have h7 := hf _ (List.mem_of_getElem? (i := 7) rfl)
  simp [sv_FQk, sv_FQ, sv_evs, sv_ev, sv_evT, sv_nth, sv_adq, sv_gs] at h7
  clear hf
  have Kso : kf xso = 97 := by omega
  have Ksf : kf xsf = 98 := by omega
  have Ken : kf xen = 84 := by omega
  have Klv : kf xlv = 75 := by omega
  have Klo : kf xlo = 76 := by omega
  have Kcu : kf xcu = 77 := by omega
  have Kns : kf xns = 78 := by omega
  intro f hf
  have hf : f ∈ [(52, [], [(0, [(0, 1)]), (0, [(1, 1)]), (0, [(2, 1)]), (0, [(3, 1)]), (0, [(4, 1)]), (0, [(5, 1)]), (0, [(6, 1)]), (0, [(7, 1)])])] := hf
  simp only [List.mem_cons, List.not_mem_nil, or_false] at hf
  subst hf
  · simp [sv_FQk, sv_FQ, sv_evs, sv_ev, sv_evT, sv_nth, sv_adq, sv_gs, q_Ks_36, q_Q_36]
    refine ⟨⟨⟨bso, Kso⟩, ⟨bsf, Ksf⟩, ⟨ben, Ken⟩, ⟨blv, Klv⟩, ⟨blo, Klo⟩, ⟨bcu, Kcu⟩, ⟨bns, Kns⟩⟩, ?_⟩
    rw [sv_Qsrc_iff]
    intro t k t1 t2 k1 k2 k3
    omega
-- src_1
def q_l177 : SvM := ([(0, none), (0, none), (0, none), (0, none), (0, none), (0, none), (0, none), (-1180591620717411303424, none), (-1180591620717411303424, none), (-1180591620717411303424, none), (-1180591620717411303424, none), (-1180591620717411303424, none), (-1180591620717411303424, none), (-1180591620717411303424, none), (-1180591620717411303424, none), (-1180591620717411303424, none), (-1180591620717411303424, none), (-1180591620717411303424, none), (-1180591620717411303424, none), (-1180591620717411303424, none)], [(52, [], [(0, [(0, 1)]), (0, [(1, 1)]), (0, [(2, 1)]), (0, [(3, 1)]), (0, [(4, 1)]), (0, [(5, 1)]), (0, [(6, 1)]), (0, [(7, 1)])]), (4, [97, 1], [(0, [(0, 1)]), (0, [(8, 150), (9, 1)]), (0, [(10, 1)])]), (2, [], [(0, [(0, 1)]), (0, [(11, 1)])]), (0, [], [(-1, [(8, -150), (9, -1), (11, 1)])]), (0, [], [(0, [(8, 1)])]), (0, [], [(-1, [(7, 1), (8, -1)])]), (0, [], [(0, [(9, 1)])]), (0, [], [(149, [(9, -1)])]), (4, [75, 1], [(0, [(3, 1)]), (0, [(8, 1)]), (0, [(12, 1)])]), (2, [], [(0, [(3, 1)]), (0, [(13, 1)])]), (0, [], [(-1, [(8, -1), (13, 1)])]), (4, [76, 1], [(0, [(4, 1)]), (0, [(8, 1)]), (0, [(14, 1)])]), (2, [], [(0, [(4, 1)]), (0, [(15, 1)])]), (0, [], [(-1, [(8, -1), (15, 1)])]), (4, [77, 1], [(0, [(5, 1)]), (0, [(8, 1)]), (0, [(16, 1)])]), (2, [], [(0, [(5, 1)]), (0, [(17, 1)])]), (0, [], [(-1, [(8, -1), (17, 1)])]), (4, [78, 1], [(0, [(6, 1)]), (0, [(8, 1)]), (0, [(18, 1)])]), (2, [], [(0, [(6, 1)]), (0, [(19, 1)])]), (0, [], [(-1, [(8, -1), (19, 1)])]), (0, [], [(-1, [(9, -1), (12, 1), (14, 1), (16, 1), (18, 1)])]), (0, [], [(0, [(10, 1)])])], [(0, [], [(-1, [(9, 1), (10, -1)])])])
theorem q_l177_ok : ∀ (g : Int → Int → Int) (ln : Int → Int) (kf : Int → Nat) (ρ : List Int), sv_BOk ρ q_l177.1 → (∀ f ∈ q_l177.2.1, sv_FQk q_Ks q_Q g ln kf ρ f) → ∀ f ∈ q_l177.2.2, sv_FQk q_Ks q_Q g ln kf ρ f := by
  intro g ln kf ρ hb hf
  obtain ⟨hl, hb⟩ := hb
  obtain ⟨xso, r0, rfl, l0⟩ := sv_lens hl
  obtain ⟨xsf, r1, rfl, l1⟩ := sv_lens l0
  obtain ⟨xen, r2, rfl, l2⟩ := sv_lens l1
  obtain ⟨xlv, r3, rfl, l3⟩ := sv_lens l2
  obtain ⟨xlo, r4, rfl, l4⟩ := sv_lens l3
  obtain ⟨xcu, r5, rfl, l5⟩ := sv_lens l4
  obtain ⟨xns, r6, rfl, l6⟩ := sv_lens l5
  obtain ⟨xn, r7, rfl, l7⟩ := sv_lens l6
  obtain ⟨xt, r8, rfl, l8⟩ := sv_lens l7
  obtain ⟨xg, r9, rfl, l9⟩ := sv_lens l8
  obtain ⟨xx, r10, rfl, l10⟩ := sv_lens l9
  obtain ⟨xNS, r11, rfl, l11⟩ := sv_lens l10
  obtain ⟨xy1, r12, rfl, l12⟩ := sv_lens l11
  obtain ⟨xM1, r13, rfl, l13⟩ := sv_lens l12
  obtain ⟨xy2, r14, rfl, l14⟩ := sv_lens l13
  obtain ⟨xM2, r15, rfl, l15⟩ := sv_lens l14
  obtain ⟨xy3, r16, rfl, l16⟩ := sv_lens l15
  obtain ⟨xM3, r17, rfl, l17⟩ := sv_lens l16
  obtain ⟨xy4, r18, rfl, l18⟩ := sv_lens l17
  obtain ⟨xM4, r19, rfl, l19⟩ := sv_lens l18
  obtain rfl := sv_len0 l19
  clear l0 l1 l2 l3 l4 l5 l6 l7 l8 l9 l10 l11 l12 l13 l14 l15 l16 l17 l18 l19 hl
  have bso : 0 ≤ xso := (hb 0 _ _ rfl rfl).1
  have bsf : 0 ≤ xsf := (hb 1 _ _ rfl rfl).1
  have ben : 0 ≤ xen := (hb 2 _ _ rfl rfl).1
  have blv : 0 ≤ xlv := (hb 3 _ _ rfl rfl).1
  have blo : 0 ≤ xlo := (hb 4 _ _ rfl rfl).1
  have bcu : 0 ≤ xcu := (hb 5 _ _ rfl rfl).1
  have bns : 0 ≤ xns := (hb 6 _ _ rfl rfl).1
  clear hb
  have h0 := hf _ (List.mem_of_getElem? (i := 0) rfl)
  simp [sv_FQk, sv_FQ, sv_evs, sv_ev, sv_evT, sv_nth, sv_adq, sv_gs, q_Ks_36, q_Q_36] at h0
  have h1 := hf _ (List.mem_of_getElem? (i := 1) rfl)
  simp [sv_FQk, sv_FQ, sv_evs, sv_ev, sv_evT, sv_nth, sv_adq, sv_gs] at h1
  have h2 := hf _ (List.mem_of_getElem? (i := 2) rfl)
  simp [sv_FQk, sv_FQ, sv_evs, sv_ev, sv_evT, sv_nth, sv_adq, sv_gs] at h2
  have h3 := hf _ (List.mem_of_getElem? (i := 3) rfl)
  simp [sv_FQk, sv_FQ, sv_evs, sv_ev, sv_evT, sv_nth, sv_adq, sv_gs] at h3
  have h4 := hf _ (List.mem_of_getElem? (i := 4) rfl)
  simp [sv_FQk, sv_FQ, sv_evs, sv_ev, sv_evT, sv_nth, sv_adq, sv_gs] at h4
  have h5 := hf _ (List.mem_of_getElem? (i := 5) rfl)
  simp [sv_FQk, sv_FQ, sv_evs, sv_ev, sv_evT, sv_nth, sv_adq, sv_gs] at h5
  have h6 := hf _ (List.mem_of_getElem? (i := 6) rfl)
  simp [sv_FQk, sv_FQ, sv_evs, sv_ev, sv_evT, sv_nth, sv_adq, sv_gs] at h6
  have h7 := hf _ (List.mem_of_getElem? (i := 7) rfl)
  simp [sv_FQk, sv_FQ, sv_evs, sv_ev, sv_evT, sv_nth, sv_adq, sv_gs] at h7
  have h8 := hf _ (List.mem_of_getElem? (i := 8) rfl)
  simp [sv_FQk, sv_FQ, sv_evs, sv_ev, sv_evT, sv_nth, sv_adq, sv_gs] at h8
  have h9 := hf _ (List.mem_of_getElem? (i := 9) rfl)
  simp [sv_FQk, sv_FQ, sv_evs, sv_ev, sv_evT, sv_nth, sv_adq, sv_gs] at h9
  have h10 := hf _ (List.mem_of_getElem? (i := 10) rfl)
  simp [sv_FQk, sv_FQ, sv_evs, sv_ev, sv_evT, sv_nth, sv_adq, sv_gs] at h10
  have h11 := hf _ (List.mem_of_getElem? (i := 11) rfl)
  simp [sv_FQk, sv_FQ, sv_evs, sv_ev, sv_evT, sv_nth, sv_adq, sv_gs] at h11
  have h12 := hf _ (List.mem_of_getElem? (i := 12) rfl)
  simp [sv_FQk, sv_FQ, sv_evs, sv_ev, sv_evT, sv_nth, sv_adq, sv_gs] at h12
  have h13 := hf _ (List.mem_of_getElem? (i := 13) rfl)
  simp [sv_FQk, sv_FQ, sv_evs, sv_ev, sv_evT, sv_nth, sv_adq, sv_gs] at h13
  have h14 := hf _ (List.mem_of_getElem? (i := 14) rfl)
  simp [sv_FQk, sv_FQ, sv_evs, sv_ev, sv_evT, sv_nth, sv_adq, sv_gs] at h14
  have h15 := hf _ (List.mem_of_getElem? (i := 15) rfl)
  simp [sv_FQk, sv_FQ, sv_evs, sv_ev, sv_evT, sv_nth, sv_adq, sv_gs] at h15
  have h16 := hf _ (List.mem_of_getElem? (i := 16) rfl)
  simp [sv_FQk, sv_FQ, sv_evs, sv_ev, sv_evT, sv_nth, sv_adq, sv_gs] at h16
  have h17 := hf _ (List.mem_of_getElem? (i := 17) rfl)
  simp [sv_FQk, sv_FQ, sv_evs, sv_ev, sv_evT, sv_nth, sv_adq, sv_gs] at h17
  have h18 := hf _ (List.mem_of_getElem? (i := 18) rfl)
  simp [sv_FQk, sv_FQ, sv_evs, sv_ev, sv_evT, sv_nth, sv_adq, sv_gs] at h18
  have h19 := hf _ (List.mem_of_getElem? (i := 19) rfl)
  simp [sv_FQk, sv_FQ, sv_evs, sv_ev, sv_evT, sv_nth, sv_adq, sv_gs] at h19
  have h20 := hf _ (List.mem_of_getElem? (i := 20) rfl)
  simp [sv_FQk, sv_FQ, sv_evs, sv_ev, sv_evT, sv_nth, sv_adq, sv_gs] at h20
  have h21 := hf _ (List.mem_of_getElem? (i := 21) rfl)
  simp [sv_FQk, sv_FQ, sv_evs, sv_ev, sv_evT, sv_nth, sv_adq, sv_gs] at h21
  clear hf
  obtain ⟨⟨⟨-, Kso⟩, ⟨-, Ksf⟩, ⟨-, Ken⟩, ⟨-, Klv⟩, ⟨-, Klo⟩, ⟨-, Kcu⟩, ⟨-, Kns⟩⟩, h0⟩ := h0
  rw [sv_Qsrc_iff] at h0
  replace h1 := h1 bso (by omega) (by have := h2 bso; omega)
  replace h8 := h8 blv (by omega) (by have := h9 blv; omega)
  replace h11 := h11 blo (by omega) (by have := h12 blo; omega)
  replace h14 := h14 bcu (by omega) (by have := h15 bcu; omega)
  replace h17 := h17 bns (by omega) (by have := h18 bns; omega)
  intro f hf
  have hf : f ∈ [(0, [], [(-1, [(9, 1), (10, -1)])])] := hf
  simp only [List.mem_cons, List.not_mem_nil, or_false] at hf
  subst hf
  · simp [sv_FQk, sv_FQ, sv_evs, sv_ev, sv_evT, sv_nth, sv_adq, sv_gs]
    have q := h0 xt xg (by omega) (by omega) (by omega) (by omega) (by omega)
    have u : g xso (150 * xt + xg) = xx := sv_fat (by omega) h1
    rw [u] at q
    omega
-- src_2
def q_l178 : SvM := ([(0, none), (0, none), (0, none), (0, none), (0, none), (0, none), (0, none), (-1180591620717411303424, none), (-1180591620717411303424, none), (-1180591620717411303424, none), (-1180591620717411303424, none), (-1180591620717411303424, none), (-1180591620717411303424, none), (-1180591620717411303424, none), (-1180591620717411303424, none), (-1180591620717411303424, none), (-1180591620717411303424, none), (-1180591620717411303424, none), (-1180591620717411303424, none), (-1180591620717411303424, none), (-1180591620717411303424, none), (-1180591620717411303424, none), (-1180591620717411303424, none)], [(52, [], [(0, [(0, 1)]), (0, [(1, 1)]), (0, [(2, 1)]), (0, [(3, 1)]), (0, [(4, 1)]), (0, [(5, 1)]), (0, [(6, 1)]), (0, [(7, 1)])]), (4, [97, 1], [(0, [(0, 1)]), (0, [(8, 150), (9, 1)]), (0, [(10, 1)])]), (2, [], [(0, [(0, 1)]), (0, [(11, 1)])]), (0, [], [(-1, [(8, -150), (9, -1), (11, 1)])]), (4, [98, 1], [(0, [(1, 1)]), (0, [(8, 150), (9, 1)]), (0, [(12, 1)])]), (2, [], [(0, [(1, 1)]), (0, [(13, 1)])]), (0, [], [(-1, [(8, -150), (9, -1), (13, 1)])]), (51, [], [(0, [(2, 1)]), (0, [(8, 150), (9, 1)]), (0, [(14, 1)])]), (0, [], [(0, [(8, 1)])]), (0, [], [(-1, [(7, 1), (8, -1)])]), (0, [], [(0, [(9, 1)])]), (0, [], [(149, [(9, -1)])]), (4, [75, 1], [(0, [(3, 1)]), (0, [(8, 1)]), (0, [(15, 1)])]), (2, [], [(0, [(3, 1)]), (0, [(16, 1)])]), (0, [], [(-1, [(8, -1), (16, 1)])]), (4, [76, 1], [(0, [(4, 1)]), (0, [(8, 1)]), (0, [(17, 1)])]), (2, [], [(0, [(4, 1)]), (0, [(18, 1)])]), (0, [], [(-1, [(8, -1), (18, 1)])]), (4, [77, 1], [(0, [(5, 1)]), (0, [(8, 1)]), (0, [(19, 1)])]), (2, [], [(0, [(5, 1)]), (0, [(20, 1)])]), (0, [], [(-1, [(8, -1), (20, 1)])]), (4, [78, 1], [(0, [(6, 1)]), (0, [(8, 1)]), (0, [(21, 1)])]), (2, [], [(0, [(6, 1)]), (0, [(22, 1)])]), (0, [], [(-1, [(8, -1), (22, 1)])]), (0, [], [(-1, [(9, -1), (15, 1), (17, 1), (19, 1), (21, 1)])]), (0, [], [(0, [(10, 1)])])], [(0, [], [(0, [(12, 1)])]), (0, [], [(16383, [(12, -1), (14, -1)])]), (51, [], [(0, [(2, 1)]), (0, [(8, 150), (10, 1)]), (0, [(12, 1), (14, 1)])])])
theorem q_l178_ok : ∀ (g : Int → Int → Int) (ln : Int → Int) (kf : Int → Nat) (ρ : List Int), sv_BOk ρ q_l178.1 → (∀ f ∈ q_l178.2.1, sv_FQk q_Ks q_Q g ln kf ρ f) → ∀ f ∈ q_l178.2.2, sv_FQk q_Ks q_Q g ln kf ρ f := by
  intro g ln kf ρ hb hf
  obtain ⟨hl, hb⟩ := hb
  obtain ⟨xso, r0, rfl, l0⟩ := sv_lens hl
  obtain ⟨xsf, r1, rfl, l1⟩ := sv_lens l0
  obtain ⟨xen, r2, rfl, l2⟩ := sv_lens l1
  obtain ⟨xlv, r3, rfl, l3⟩ := sv_lens l2
  obtain ⟨xlo, r4, rfl, l4⟩ := sv_lens l3
  obtain ⟨xcu, r5, rfl, l5⟩ := sv_lens l4
  obtain ⟨xns, r6, rfl, l6⟩ := sv_lens l5
  obtain ⟨xn, r7, rfl, l7⟩ := sv_lens l6
  obtain ⟨xt, r8, rfl, l8⟩ := sv_lens l7
  obtain ⟨xg, r9, rfl, l9⟩ := sv_lens l8
  obtain ⟨xx, r10, rfl, l10⟩ := sv_lens l9
  obtain ⟨xNS, r11, rfl, l11⟩ := sv_lens l10
  obtain ⟨xy, r12, rfl, l12⟩ := sv_lens l11
  obtain ⟨xNF, r13, rfl, l13⟩ := sv_lens l12
  obtain ⟨xk, r14, rfl, l14⟩ := sv_lens l13
  obtain ⟨xy1, r15, rfl, l15⟩ := sv_lens l14
  obtain ⟨xM1, r16, rfl, l16⟩ := sv_lens l15
  obtain ⟨xy2, r17, rfl, l17⟩ := sv_lens l16
  obtain ⟨xM2, r18, rfl, l18⟩ := sv_lens l17
  obtain ⟨xy3, r19, rfl, l19⟩ := sv_lens l18
  obtain ⟨xM3, r20, rfl, l20⟩ := sv_lens l19
  obtain ⟨xy4, r21, rfl, l21⟩ := sv_lens l20
  obtain ⟨xM4, r22, rfl, l22⟩ := sv_lens l21
  obtain rfl := sv_len0 l22
  clear l0 l1 l2 l3 l4 l5 l6 l7 l8 l9 l10 l11 l12 l13 l14 l15 l16 l17 l18 l19 l20 l21 l22 hl
  have bso : 0 ≤ xso := (hb 0 _ _ rfl rfl).1
  have bsf : 0 ≤ xsf := (hb 1 _ _ rfl rfl).1
  have ben : 0 ≤ xen := (hb 2 _ _ rfl rfl).1
  have blv : 0 ≤ xlv := (hb 3 _ _ rfl rfl).1
  have blo : 0 ≤ xlo := (hb 4 _ _ rfl rfl).1
  have bcu : 0 ≤ xcu := (hb 5 _ _ rfl rfl).1
  have bns : 0 ≤ xns := (hb 6 _ _ rfl rfl).1
  clear hb
  have h0 := hf _ (List.mem_of_getElem? (i := 0) rfl)
  simp [sv_FQk, sv_FQ, sv_evs, sv_ev, sv_evT, sv_nth, sv_adq, sv_gs, q_Ks_36, q_Q_36] at h0
  have h1 := hf _ (List.mem_of_getElem? (i := 1) rfl)
  simp [sv_FQk, sv_FQ, sv_evs, sv_ev, sv_evT, sv_nth, sv_adq, sv_gs] at h1
  have h2 := hf _ (List.mem_of_getElem? (i := 2) rfl)
  simp [sv_FQk, sv_FQ, sv_evs, sv_ev, sv_evT, sv_nth, sv_adq, sv_gs] at h2
  have h3 := hf _ (List.mem_of_getElem? (i := 3) rfl)
  simp [sv_FQk, sv_FQ, sv_evs, sv_ev, sv_evT, sv_nth, sv_adq, sv_gs] at h3
  have h4 := hf _ (List.mem_of_getElem? (i := 4) rfl)
  simp [sv_FQk, sv_FQ, sv_evs, sv_ev, sv_evT, sv_nth, sv_adq, sv_gs] at h4
  have h5 := hf _ (List.mem_of_getElem? (i := 5) rfl)
  simp [sv_FQk, sv_FQ, sv_evs, sv_ev, sv_evT, sv_nth, sv_adq, sv_gs] at h5
  have h6 := hf _ (List.mem_of_getElem? (i := 6) rfl)
  simp [sv_FQk, sv_FQ, sv_evs, sv_ev, sv_evT, sv_nth, sv_adq, sv_gs] at h6
  have h7 := hf _ (List.mem_of_getElem? (i := 7) rfl)
  simp [sv_FQk, sv_FQ, sv_evs, sv_ev, sv_evT, sv_nth, sv_adq, sv_gs, q_Ks_35, q_Q_35] at h7
  have h8 := hf _ (List.mem_of_getElem? (i := 8) rfl)
  simp [sv_FQk, sv_FQ, sv_evs, sv_ev, sv_evT, sv_nth, sv_adq, sv_gs] at h8
  have h9 := hf _ (List.mem_of_getElem? (i := 9) rfl)
  simp [sv_FQk, sv_FQ, sv_evs, sv_ev, sv_evT, sv_nth, sv_adq, sv_gs] at h9
  have h10 := hf _ (List.mem_of_getElem? (i := 10) rfl)
  simp [sv_FQk, sv_FQ, sv_evs, sv_ev, sv_evT, sv_nth, sv_adq, sv_gs] at h10
  have h11 := hf _ (List.mem_of_getElem? (i := 11) rfl)
  simp [sv_FQk, sv_FQ, sv_evs, sv_ev, sv_evT, sv_nth, sv_adq, sv_gs] at h11
  have h12 := hf _ (List.mem_of_getElem? (i := 12) rfl)
  simp [sv_FQk, sv_FQ, sv_evs, sv_ev, sv_evT, sv_nth, sv_adq, sv_gs] at h12
  have h13 := hf _ (List.mem_of_getElem? (i := 13) rfl)
  simp [sv_FQk, sv_FQ, sv_evs, sv_ev, sv_evT, sv_nth, sv_adq, sv_gs] at h13
  have h14 := hf _ (List.mem_of_getElem? (i := 14) rfl)
  simp [sv_FQk, sv_FQ, sv_evs, sv_ev, sv_evT, sv_nth, sv_adq, sv_gs] at h14
  have h15 := hf _ (List.mem_of_getElem? (i := 15) rfl)
  simp [sv_FQk, sv_FQ, sv_evs, sv_ev, sv_evT, sv_nth, sv_adq, sv_gs] at h15
  have h16 := hf _ (List.mem_of_getElem? (i := 16) rfl)
  simp [sv_FQk, sv_FQ, sv_evs, sv_ev, sv_evT, sv_nth, sv_adq, sv_gs] at h16
  have h17 := hf _ (List.mem_of_getElem? (i := 17) rfl)
  simp [sv_FQk, sv_FQ, sv_evs, sv_ev, sv_evT, sv_nth, sv_adq, sv_gs] at h17
  have h18 := hf _ (List.mem_of_getElem? (i := 18) rfl)
  simp [sv_FQk, sv_FQ, sv_evs, sv_ev, sv_evT, sv_nth, sv_adq, sv_gs] at h18
  have h19 := hf _ (List.mem_of_getElem? (i := 19) rfl)
  simp [sv_FQk, sv_FQ, sv_evs, sv_ev, sv_evT, sv_nth, sv_adq, sv_gs] at h19
  have h20 := hf _ (List.mem_of_getElem? (i := 20) rfl)
  simp [sv_FQk, sv_FQ, sv_evs, sv_ev, sv_evT, sv_nth, sv_adq, sv_gs] at h20
  have h21 := hf _ (List.mem_of_getElem? (i := 21) rfl)
  simp [sv_FQk, sv_FQ, sv_evs, sv_ev, sv_evT, sv_nth, sv_adq, sv_gs] at h21
  have h22 := hf _ (List.mem_of_getElem? (i := 22) rfl)
  simp [sv_FQk, sv_FQ, sv_evs, sv_ev, sv_evT, sv_nth, sv_adq, sv_gs] at h22
  have h23 := hf _ (List.mem_of_getElem? (i := 23) rfl)
  simp [sv_FQk, sv_FQ, sv_evs, sv_ev, sv_evT, sv_nth, sv_adq, sv_gs] at h23
  have h24 := hf _ (List.mem_of_getElem? (i := 24) rfl)
  simp [sv_FQk, sv_FQ, sv_evs, sv_ev, sv_evT, sv_nth, sv_adq, sv_gs] at h24
  have h25 := hf _ (List.mem_of_getElem? (i := 25) rfl)
  simp [sv_FQk, sv_FQ, sv_evs, sv_ev, sv_evT, sv_nth, sv_adq, sv_gs] at h25
  clear hf
  obtain ⟨⟨⟨-, Kso⟩, ⟨-, Ksf⟩, ⟨-, Ken⟩, ⟨-, Klv⟩, ⟨-, Klo⟩, ⟨-, Kcu⟩, ⟨-, Kns⟩⟩, h0⟩ := h0
  rw [sv_Qsrc_iff] at h0
  replace h1 := h1 bso (by omega) (by have := h2 bso; omega)
  replace h4 := h4 bsf (by omega) (by have := h5 bsf; omega)
  obtain ⟨⟨-, Ken⟩, h7⟩ := h7
  rw [sv_Qcn_iff] at h7
  replace h12 := h12 blv (by omega) (by have := h13 blv; omega)
  replace h15 := h15 blo (by omega) (by have := h16 blo; omega)
  replace h18 := h18 bcu (by omega) (by have := h19 bcu; omega)
  replace h21 := h21 bns (by omega) (by have := h22 bns; omega)
  intro f hf
  have hf : f ∈ [(0, [], [(0, [(12, 1)])]), (0, [], [(16383, [(12, -1), (14, -1)])]), (51, [], [(0, [(2, 1)]), (0, [(8, 150), (10, 1)]), (0, [(12, 1), (14, 1)])])] := hf
  simp only [List.mem_cons, List.not_mem_nil, or_false] at hf
  rcases hf with rfl | rfl | rfl
  · simp [sv_FQk, sv_FQ, sv_evs, sv_ev, sv_evT, sv_nth, sv_adq, sv_gs]
    have q := h0 xt xg (by omega) (by omega) (by omega) (by omega) (by omega)
    have u : g xso (150 * xt + xg) = xx := sv_fat (by omega) h1
    rw [u] at q
    have v : g xsf (150 * xt + xg) = xy := sv_fat (by omega) h4
    rw [v] at q
    have w : xk < g xen (150 * xt + xg) := sv_lt_at (by omega) h7
    omega
  · simp [sv_FQk, sv_FQ, sv_evs, sv_ev, sv_evT, sv_nth, sv_adq, sv_gs]
    have q := h0 xt xg (by omega) (by omega) (by omega) (by omega) (by omega)
    have u : g xso (150 * xt + xg) = xx := sv_fat (by omega) h1
    rw [u] at q
    have v : g xsf (150 * xt + xg) = xy := sv_fat (by omega) h4
    rw [v] at q
    have w : xk < g xen (150 * xt + xg) := sv_lt_at (by omega) h7
    omega
  · simp [sv_FQk, sv_FQ, sv_evs, sv_ev, sv_evT, sv_nth, sv_adq, sv_gs, q_Ks_35, q_Q_35]
    refine ⟨⟨ben, Ken⟩, ?_⟩
    rw [sv_Qcn_iff]
    have q := h0 xt xg (by omega) (by omega) (by omega) (by omega) (by omega)
    have u : g xso (150 * xt + xg) = xx := sv_fat (by omega) h1
    rw [u] at q
    have v : g xsf (150 * xt + xg) = xy := sv_fat (by omega) h4
    rw [v] at q
    have w : xk < g xen (150 * xt + xg) := sv_lt_at (by omega) h7
    exact sv_lt_at (v := 150 * xt + xx) (by omega) (by omega)
-- sn_0
def q_l179 : SvM := ([(0, none), (0, none), (0, none), (0, none), (0, none), (-1180591620717411303424, none), (-1180591620717411303424, none), (-1180591620717411303424, none), (-1180591620717411303424, none), (-1180591620717411303424, none), (-1180591620717411303424, none), (-1180591620717411303424, none), (-1180591620717411303424, none), (-1180591620717411303424, none)], [(1, [97], [(0, [(0, 1)])]), (4, [75, 1], [(0, [(1, 1)]), (0, [(5, 1)]), (0, [(6, 1)])]), (2, [], [(0, [(1, 1)]), (0, [(7, 1)])]), (0, [], [(-1, [(5, -1), (7, 1)])]), (4, [76, 1], [(0, [(2, 1)]), (0, [(5, 1)]), (0, [(8, 1)])]), (2, [], [(0, [(2, 1)]), (0, [(9, 1)])]), (0, [], [(-1, [(5, -1), (9, 1)])]), (4, [77, 1], [(0, [(3, 1)]), (0, [(5, 1)]), (0, [(10, 1)])]), (2, [], [(0, [(3, 1)]), (0, [(11, 1)])]), (0, [], [(-1, [(5, -1), (11, 1)])]), (4, [78, 1], [(0, [(4, 1)]), (0, [(5, 1)]), (0, [(12, 1)])]), (2, [], [(0, [(4, 1)]), (0, [(13, 1)])]), (0, [], [(-1, [(5, -1), (13, 1)])]), (0, [], [(0, [(5, 1)])]), (0, [], [(0, [(6, -1), (8, -1), (10, -1), (12, -1)])]), (1, [75], [(0, [(1, 1)])]), (1, [76], [(0, [(2, 1)])]), (1, [77], [(0, [(3, 1)])]), (1, [78], [(0, [(4, 1)])])], [(53, [], [(0, [(0, 1)]), (0, [(1, 1)]), (0, [(2, 1)]), (0, [(3, 1)]), (0, [(4, 1)]), (0, [(5, 1)])])])
theorem q_l179_ok : ∀ (g : Int → Int → Int) (ln : Int → Int) (kf : Int → Nat) (ρ : List Int), sv_BOk ρ q_l179.1 → (∀ f ∈ q_l179.2.1, sv_FQk q_Ks q_Q g ln kf ρ f) → ∀ f ∈ q_l179.2.2, sv_FQk q_Ks q_Q g ln kf ρ f := by
  intro g ln kf ρ hb hf
  obtain ⟨hl, hb⟩ := hb
  obtain ⟨xso, r0, rfl, l0⟩ := sv_lens hl
  obtain ⟨xlv, r1, rfl, l1⟩ := sv_lens l0
  obtain ⟨xlo, r2, rfl, l2⟩ := sv_lens l1
  obtain ⟨xcu, r3, rfl, l3⟩ := sv_lens l2
  obtain ⟨xns, r4, rfl, l4⟩ := sv_lens l3
  obtain ⟨xt, r5, rfl, l5⟩ := sv_lens l4
  obtain ⟨xy1, r6, rfl, l6⟩ := sv_lens l5
  obtain ⟨xM1, r7, rfl, l7⟩ := sv_lens l6
  obtain ⟨xy2, r8, rfl, l8⟩ := sv_lens l7
  obtain ⟨xM2, r9, rfl, l9⟩ := sv_lens l8
  obtain ⟨xy3, r10, rfl, l10⟩ := sv_lens l9
  obtain ⟨xM3, r11, rfl, l11⟩ := sv_lens l10
  obtain ⟨xy4, r12, rfl, l12⟩ := sv_lens l11
  obtain ⟨xM4, r13, rfl, l13⟩ := sv_lens l12
  obtain rfl := sv_len0 l13
  clear l0 l1 l2 l3 l4 l5 l6 l7 l8 l9 l10 l11 l12 l13 hl
  have bso : 0 ≤ xso := (hb 0 _ _ rfl rfl).1
  have blv : 0 ≤ xlv := (hb 1 _ _ rfl rfl).1
  have blo : 0 ≤ xlo := (hb 2 _ _ rfl rfl).1
  have bcu : 0 ≤ xcu := (hb 3 _ _ rfl rfl).1
  have bns : 0 ≤ xns := (hb 4 _ _ rfl rfl).1
  clear hb
  have h0 := hf _ (List.mem_of_getElem? (i := 0) rfl)
  simp [sv_FQk, sv_FQ, sv_evs, sv_ev, sv_evT, sv_nth, sv_adq, sv_gs] at h0
  have h1 := hf _ (List.mem_of_getElem? (i := 1) rfl)
  simp [sv_FQk, sv_FQ, sv_evs, sv_ev, sv_evT, sv_nth, sv_adq, sv_gs] at h1
  have h2 := hf _ (List.mem_of_getElem? (i := 2) rfl)
  simp [sv_FQk, sv_FQ, sv_evs, sv_ev, sv_evT, sv_nth, sv_adq, sv_gs] at h2
  have h3 := hf _ (List.mem_of_getElem? (i := 3) rfl)
  simp [sv_FQk, sv_FQ, sv_evs, sv_ev, sv_evT, sv_nth, sv_adq, sv_gs] at h3
  have h4 := hf _ (List.mem_of_getElem? (i := 4) rfl)
  simp [sv_FQk, sv_FQ, sv_evs, sv_ev, sv_evT, sv_nth, sv_adq, sv_gs] at h4
  have h5 := hf _ (List.mem_of_getElem? (i := 5) rfl)
  simp [sv_FQk, sv_FQ, sv_evs, sv_ev, sv_evT, sv_nth, sv_adq, sv_gs] at h5
  have h6 := hf _ (List.mem_of_getElem? (i := 6) rfl)
  simp [sv_FQk, sv_FQ, sv_evs, sv_ev, sv_evT, sv_nth, sv_adq, sv_gs] at h6
  have h7 := hf _ (List.mem_of_getElem? (i := 7) rfl)
  simp [sv_FQk, sv_FQ, sv_evs, sv_ev, sv_evT, sv_nth, sv_adq, sv_gs] at h7
  have h8 := hf _ (List.mem_of_getElem? (i := 8) rfl)
  simp [sv_FQk, sv_FQ, sv_evs, sv_ev, sv_evT, sv_nth, sv_adq, sv_gs] at h8
  have h9 := hf _ (List.mem_of_getElem? (i := 9) rfl)
  simp [sv_FQk, sv_FQ, sv_evs, sv_ev, sv_evT, sv_nth, sv_adq, sv_gs] at h9
  have h10 := hf _ (List.mem_of_getElem? (i := 10) rfl)
  simp [sv_FQk, sv_FQ, sv_evs, sv_ev, sv_evT, sv_nth, sv_adq, sv_gs] at h10
  have h11 := hf _ (List.mem_of_getElem? (i := 11) rfl)
  simp [sv_FQk, sv_FQ, sv_evs, sv_ev, sv_evT, sv_nth, sv_adq, sv_gs] at h11
  have h12 := hf _ (List.mem_of_getElem? (i := 12) rfl)
  simp [sv_FQk, sv_FQ, sv_evs, sv_ev, sv_evT, sv_nth, sv_adq, sv_gs] at h12
  have h13 := hf _ (List.mem_of_getElem? (i := 13) rfl)
  simp [sv_FQk, sv_FQ, sv_evs, sv_ev, sv_evT, sv_nth, sv_adq, sv_gs] at h13
  have h14 := hf _ (List.mem_of_getElem? (i := 14) rfl)
  simp [sv_FQk, sv_FQ, sv_evs, sv_ev, sv_evT, sv_nth, sv_adq, sv_gs] at h14
  have h15 := hf _ (List.mem_of_getElem? (i := 15) rfl)
  simp [sv_FQk, sv_FQ, sv_evs, sv_ev, sv_evT, sv_nth, sv_adq, sv_gs] at h15
  have h16 := hf _ (List.mem_of_getElem? (i := 16) rfl)
  simp [sv_FQk, sv_FQ, sv_evs, sv_ev, sv_evT, sv_nth, sv_adq, sv_gs] at h16
  have h17 := hf _ (List.mem_of_getElem? (i := 17) rfl)
  simp [sv_FQk, sv_FQ, sv_evs, sv_ev, sv_evT, sv_nth, sv_adq, sv_gs] at h17
  have h18 := hf _ (List.mem_of_getElem? (i := 18) rfl)
  simp [sv_FQk, sv_FQ, sv_evs, sv_ev, sv_evT, sv_nth, sv_adq, sv_gs] at h18
  clear hf
  have Kso : kf xso = 97 := by omega
  replace h1 := h1 blv (by omega) (by have := h2 blv; omega)
  replace h4 := h4 blo (by omega) (by have := h5 blo; omega)
  replace h7 := h7 bcu (by omega) (by have := h8 bcu; omega)
  replace h10 := h10 bns (by omega) (by have := h11 bns; omega)
  have Klv : kf xlv = 75 := by omega
  have Klo : kf xlo = 76 := by omega
  have Kcu : kf xcu = 77 := by omega
  have Kns : kf xns = 78 := by omega
  intro f hf
  have hf : f ∈ [(53, [], [(0, [(0, 1)]), (0, [(1, 1)]), (0, [(2, 1)]), (0, [(3, 1)]), (0, [(4, 1)]), (0, [(5, 1)])])] := hf
  simp only [List.mem_cons, List.not_mem_nil, or_false] at hf
  subst hf
  · simp [sv_FQk, sv_FQ, sv_evs, sv_ev, sv_evT, sv_nth, sv_adq, sv_gs, q_Ks_37, q_Q_37]
    refine ⟨⟨⟨bso, Kso⟩, ⟨blv, Klv⟩, ⟨blo, Klo⟩, ⟨bcu, Kcu⟩, ⟨bns, Kns⟩⟩, ?_⟩
    rw [sv_Qsn_iff]
    intro k k1 k2
    omega
