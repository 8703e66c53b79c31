-- ===== laws of opaque facts =====
-- fb_o
def q_m69 : Nat × SvM := (94, ([(0, none), (-1180591620717411303424, none), (-1180591620717411303424, none), (-1180591620717411303424, none), (-1180591620717411303424, none), (-1180591620717411303424, none)], [(48, [], [(0, [(0, 1)]), (0, [(3, 1)]), (0, [(4, 1)]), (0, [(5, 1)])]), (0, [], [(0, [(1, 1), (4, -1)])])], [(48, [], [(0, [(0, 1)]), (0, [(3, 1)]), (0, [(4, 1)]), (0, [(5, 1)])])]))
theorem q_m69_ok : ∀ (g : Int → Int → Int) (ln : Int → Int) (kf : Int → Nat) (ρ : List Int) (a i x : Int), sv_BOk ρ q_m69.2.1 → (∀ f ∈ q_m69.2.2.1, sv_FQk q_Ks q_Q g ln kf ρ f) → sv_nth ρ 0 = some a → sv_nth ρ 1 = some i → sv_nth ρ 2 = some x → 0 ≤ a → 0 ≤ i → i < ln a → kf a = q_m69.1 → ∀ f ∈ q_m69.2.2.2, sv_FQk q_Ks q_Q (sv_put g a i x) ln kf ρ f := by
  intro g ln kf ρ a i x hb hf n0 n1 n2 p0 p1 p2 p3
  obtain ⟨hl, hb⟩ := hb
  obtain ⟨xa, r0, rfl, l0⟩ := sv_lens hl
  obtain ⟨xi, r1, rfl, l1⟩ := sv_lens l0
  obtain ⟨xx, r2, rfl, l2⟩ := sv_lens l1
  obtain ⟨xlo, r3, rfl, l3⟩ := sv_lens l2
  obtain ⟨xhi, r4, rfl, l4⟩ := sv_lens l3
  obtain ⟨xl, r5, rfl, l5⟩ := sv_lens l4
  obtain rfl := sv_len0 l5
  clear l0 l1 l2 l3 l4 l5 hl
  have ba : 0 ≤ xa := (hb 0 _ _ rfl rfl).1
  clear hb
  obtain rfl : xa = a := by simpa [sv_nth] using n0
  obtain rfl : xi = i := by simpa [sv_nth] using n1
  obtain rfl : xx = x := by simpa [sv_nth] using n2
  clear n0 n1 n2
  have p3 : kf xa = 94 := p3
  have h0 := hf _ (List.mem_of_getElem? (i := 0) rfl)
  simp [sv_FQk, sv_FQ, sv_evs, sv_ev, sv_evT, sv_nth, sv_adq, sv_gs, q_Ks_32, q_Q_32] at h0
  have h1 := hf _ (List.mem_of_getElem? (i := 1) rfl)
  simp [sv_FQk, sv_FQ, sv_evs, sv_ev, sv_evT, sv_nth, sv_adq, sv_gs] at h1
  clear hf
  obtain ⟨⟨-, Ka⟩, h0⟩ := h0
  rw [sv_Qlb_iff] at h0
  intro f hf
  have hf : f ∈ [(48, [], [(0, [(0, 1)]), (0, [(3, 1)]), (0, [(4, 1)]), (0, [(5, 1)])])] := hf
  simp only [List.mem_cons, List.not_mem_nil, or_false] at hf
  subst hf
  · simp [sv_FQk, sv_FQ, sv_evs, sv_ev, sv_evT, sv_nth, sv_adq, sv_gs, q_Ks_32, q_Q_32]
    refine ⟨⟨ba, Ka⟩, ?_⟩
    rw [sv_Qlb_iff]
    simp only [sv_put_eq]
    intro j j1 j2
    rw [if_neg (by omega)]
    exact h0 j j1 j2
-- fc_s1
def q_m70 : Nat × SvM := (94, ([(0, none), (-1180591620717411303424, none), (-1180591620717411303424, none), (0, none), (-1180591620717411303424, none), (-1180591620717411303424, none)], [(47, [], [(0, [(0, 1)]), (0, [(3, 1)]), (0, [(4, 1)]), (0, [(5, 1)])]), (0, [], [(0, [(1, 1), (4, -256), (5, -256)])])], [(47, [], [(0, [(0, 1)]), (0, [(3, 1)]), (0, [(4, 1)]), (0, [(5, 1)])])]))
theorem q_m70_ok : ∀ (g : Int → Int → Int) (ln : Int → Int) (kf : Int → Nat) (ρ : List Int) (a i x : Int), sv_BOk ρ q_m70.2.1 → (∀ f ∈ q_m70.2.2.1, sv_FQk q_Ks q_Q g ln kf ρ f) → sv_nth ρ 0 = some a → sv_nth ρ 1 = some i → sv_nth ρ 2 = some x → 0 ≤ a → 0 ≤ i → i < ln a → kf a = q_m70.1 → ∀ f ∈ q_m70.2.2.2, sv_FQk q_Ks q_Q (sv_put g a i x) ln kf ρ f := by
  intro g ln kf ρ a i x hb hf n0 n1 n2 p0 p1 p2 p3
  obtain ⟨hl, hb⟩ := hb
  obtain ⟨xa, r0, rfl, l0⟩ := sv_lens hl
  obtain ⟨xi, r1, rfl, l1⟩ := sv_lens l0
  obtain ⟨xx, r2, rfl, l2⟩ := sv_lens l1
  obtain ⟨xm, r3, rfl, l3⟩ := sv_lens l2
  obtain ⟨xb, r4, rfl, l4⟩ := sv_lens l3
  obtain ⟨xn, r5, rfl, l5⟩ := sv_lens l4
  obtain rfl := sv_len0 l5
  clear l0 l1 l2 l3 l4 l5 hl
  have ba : 0 ≤ xa := (hb 0 _ _ rfl rfl).1
  have bm : 0 ≤ xm := (hb 3 _ _ rfl rfl).1
  clear hb
  obtain rfl : xa = a := by simpa [sv_nth] using n0
  obtain rfl : xi = i := by simpa [sv_nth] using n1
  obtain rfl : xx = x := by simpa [sv_nth] using n2
  clear n0 n1 n2
  have p3 : kf xa = 94 := p3
  have h0 := hf _ (List.mem_of_getElem? (i := 0) rfl)
  simp [sv_FQk, sv_FQ, sv_evs, sv_ev, sv_evT, sv_nth, sv_adq, sv_gs, q_Ks_31, q_Q_31] at h0
  have h1 := hf _ (List.mem_of_getElem? (i := 1) rfl)
  simp [sv_FQk, sv_FQ, sv_evs, sv_ev, sv_evT, sv_nth, sv_adq, sv_gs] at h1
  clear hf
  obtain ⟨⟨⟨-, Ka⟩, ⟨-, Km⟩⟩, h0⟩ := h0
  rw [sv_Qfc_iff] at h0
  have em : sv_put g xa xi xx xm = g xm := sv_put_ne (sv_kf_ne Km p3 (by decide))
  intro f hf
  have hf : f ∈ [(47, [], [(0, [(0, 1)]), (0, [(3, 1)]), (0, [(4, 1)]), (0, [(5, 1)])])] := hf
  simp only [List.mem_cons, List.not_mem_nil, or_false] at hf
  subst hf
  · simp [sv_FQk, sv_FQ, sv_evs, sv_ev, sv_evT, sv_nth, sv_adq, sv_gs, q_Ks_31, q_Q_31]
    refine ⟨⟨⟨ba, Ka⟩, ⟨bm, Km⟩⟩, ?_⟩
    rw [sv_Qfc_iff]
    simp only [sv_put_eq, em]
    intro k k1 k2 j j1 j2 j3
    rw [if_neg (by omega)]
    exact h0 k k1 k2 j j1 j2 j3
-- fc_s2
def q_m71 : Nat × SvM := (93, ([(0, none), (-1180591620717411303424, none), (-1180591620717411303424, none), (0, none), (-1180591620717411303424, none), (-1180591620717411303424, none)], [(47, [], [(0, [(3, 1)]), (0, [(0, 1)]), (0, [(4, 1)]), (0, [(5, 1)])]), (0, [], [(0, [(1, 1), (4, -1), (5, -1)])])], [(47, [], [(0, [(3, 1)]), (0, [(0, 1)]), (0, [(4, 1)]), (0, [(5, 1)])])]))
theorem q_m71_ok : ∀ (g : Int → Int → Int) (ln : Int → Int) (kf : Int → Nat) (ρ : List Int) (a i x : Int), sv_BOk ρ q_m71.2.1 → (∀ f ∈ q_m71.2.2.1, sv_FQk q_Ks q_Q g ln kf ρ f) → sv_nth ρ 0 = some a → sv_nth ρ 1 = some i → sv_nth ρ 2 = some x → 0 ≤ a → 0 ≤ i → i < ln a → kf a = q_m71.1 → ∀ f ∈ q_m71.2.2.2, sv_FQk q_Ks q_Q (sv_put g a i x) ln kf ρ f := by
  intro g ln kf ρ a i x hb hf n0 n1 n2 p0 p1 p2 p3
  obtain ⟨hl, hb⟩ := hb
  obtain ⟨xm, r0, rfl, l0⟩ := sv_lens hl
  obtain ⟨xi, r1, rfl, l1⟩ := sv_lens l0
  obtain ⟨xx, r2, rfl, l2⟩ := sv_lens l1
  obtain ⟨xa, r3, rfl, l3⟩ := sv_lens l2
  obtain ⟨xb, r4, rfl, l4⟩ := sv_lens l3
  obtain ⟨xn, r5, rfl, l5⟩ := sv_lens l4
  obtain rfl := sv_len0 l5
  clear l0 l1 l2 l3 l4 l5 hl
  have bm : 0 ≤ xm := (hb 0 _ _ rfl rfl).1
  have ba : 0 ≤ xa := (hb 3 _ _ rfl rfl).1
  clear hb
  obtain rfl : xm = a := by simpa [sv_nth] using n0
  obtain rfl : xi = i := by simpa [sv_nth] using n1
  obtain rfl : xx = x := by simpa [sv_nth] using n2
  clear n0 n1 n2
  have p3 : kf xm = 93 := p3
  have h0 := hf _ (List.mem_of_getElem? (i := 0) rfl)
  simp [sv_FQk, sv_FQ, sv_evs, sv_ev, sv_evT, sv_nth, sv_adq, sv_gs, q_Ks_31, q_Q_31] at h0
  have h1 := hf _ (List.mem_of_getElem? (i := 1) rfl)
  simp [sv_FQk, sv_FQ, sv_evs, sv_ev, sv_evT, sv_nth, sv_adq, sv_gs] at h1
  clear hf
  obtain ⟨⟨⟨-, Ka⟩, ⟨-, Km⟩⟩, h0⟩ := h0
  rw [sv_Qfc_iff] at h0
  have ea : sv_put g xm xi xx xa = g xa := sv_put_ne (sv_kf_ne Ka p3 (by decide))
  intro f hf
  have hf : f ∈ [(47, [], [(0, [(3, 1)]), (0, [(0, 1)]), (0, [(4, 1)]), (0, [(5, 1)])])] := hf
  simp only [List.mem_cons, List.not_mem_nil, or_false] at hf
  subst hf
  · simp [sv_FQk, sv_FQ, sv_evs, sv_ev, sv_evT, sv_nth, sv_adq, sv_gs, q_Ks_31, q_Q_31]
    refine ⟨⟨⟨ba, Ka⟩, ⟨bm, Km⟩⟩, ?_⟩
    rw [sv_Qfc_iff]
    simp only [sv_put_eq, ea]
    intro k k1 k2
    rw [if_neg (by omega)]
    exact h0 k k1 k2
-- wf_s
def q_m72 : Nat × SvM := (99, ([(0, none), (-1180591620717411303424, none), (-1180591620717411303424, none), (-1180591620717411303424, none), (-1180591620717411303424, none), (-1180591620717411303424, none), (-1180591620717411303424, none)], [(49, [], [(0, [(0, 1)]), (0, [(3, 1)]), (0, [(4, 1)]), (0, [(5, 1)]), (0, [(6, 1)])]), (0, [], [(0, [(1, -1), (4, 1)])]), (0, [], [(0, [(1, 1), (4, -1)])]), (0, [], [(0, [(2, 1), (5, -1)])]), (0, [], [(0, [(2, -1), (6, 1)])])], [(49, [], [(0, [(0, 1)]), (0, [(3, 1)]), (1, [(4, 1)]), (0, [(5, 1)]), (0, [(6, 1)])])]))
theorem q_m72_ok : ∀ (g : Int → Int → Int) (ln : Int → Int) (kf : Int → Nat) (ρ : List Int) (a i x : Int), sv_BOk ρ q_m72.2.1 → (∀ f ∈ q_m72.2.2.1, sv_FQk q_Ks q_Q g ln kf ρ f) → sv_nth ρ 0 = some a → sv_nth ρ 1 = some i → sv_nth ρ 2 = some x → 0 ≤ a → 0 ≤ i → i < ln a → kf a = q_m72.1 → ∀ f ∈ q_m72.2.2.2, sv_FQk q_Ks q_Q (sv_put g a i x) ln kf ρ f := by
  intro g ln kf ρ a i x hb hf n0 n1 n2 p0 p1 p2 p3
  obtain ⟨hl, hb⟩ := hb
  obtain ⟨xa, r0, rfl, l0⟩ := sv_lens hl
  obtain ⟨xi, r1, rfl, l1⟩ := sv_lens l0
  obtain ⟨xx, r2, rfl, l2⟩ := sv_lens l1
  obtain ⟨xlo, r3, rfl, l3⟩ := sv_lens l2
  obtain ⟨xhi, r4, rfl, l4⟩ := sv_lens l3
  obtain ⟨xl, r5, rfl, l5⟩ := sv_lens l4
  obtain ⟨xu, r6, rfl, l6⟩ := sv_lens l5
  obtain rfl := sv_len0 l6
  clear l0 l1 l2 l3 l4 l5 l6 hl
  have ba : 0 ≤ xa := (hb 0 _ _ rfl rfl).1
  clear hb
  obtain rfl : xa = a := by simpa [sv_nth] using n0
  obtain rfl : xi = i := by simpa [sv_nth] using n1
  obtain rfl : xx = x := by simpa [sv_nth] using n2
  clear n0 n1 n2
  have p3 : kf xa = 99 := p3
  have h0 := hf _ (List.mem_of_getElem? (i := 0) rfl)
  simp [sv_FQk, sv_FQ, sv_evs, sv_ev, sv_evT, sv_nth, sv_adq, sv_gs, q_Ks_33, q_Q_33] at h0
  have h1 := hf _ (List.mem_of_getElem? (i := 1) rfl)
  simp [sv_FQk, sv_FQ, sv_evs, sv_ev, sv_evT, sv_nth, sv_adq, sv_gs] at h1
  have h2 := hf _ (List.mem_of_getElem? (i := 2) rfl)
  simp [sv_FQk, sv_FQ, sv_evs, sv_ev, sv_evT, sv_nth, sv_adq, sv_gs] at h2
  have h3 := hf _ (List.mem_of_getElem? (i := 3) rfl)
  simp [sv_FQk, sv_FQ, sv_evs, sv_ev, sv_evT, sv_nth, sv_adq, sv_gs] at h3
  have h4 := hf _ (List.mem_of_getElem? (i := 4) rfl)
  simp [sv_FQk, sv_FQ, sv_evs, sv_ev, sv_evT, sv_nth, sv_adq, sv_gs] at h4
  clear hf
  obtain ⟨⟨-, Ka⟩, h0⟩ := h0
  rw [sv_Qlin_iff] at h0
  intro f hf
  have hf : f ∈ [(49, [], [(0, [(0, 1)]), (0, [(3, 1)]), (1, [(4, 1)]), (0, [(5, 1)]), (0, [(6, 1)])])] := hf
  simp only [List.mem_cons, List.not_mem_nil, or_false] at hf
  subst hf
  · simp [sv_FQk, sv_FQ, sv_evs, sv_ev, sv_evT, sv_nth, sv_adq, sv_gs, q_Ks_33, q_Q_33]
    refine ⟨⟨ba, Ka⟩, ?_⟩
    rw [sv_Qlin_iff]
    simp only [sv_put_eq]
    intro j j1 j2
    by_cases e : j = xi
    · rw [if_pos e]
      omega
    · rw [if_neg e]
      exact h0 j j1 (by omega)
-- wf_k
def q_m73 : Nat × SvM := (99, ([(0, none), (-1180591620717411303424, none), (-1180591620717411303424, none), (-1180591620717411303424, none), (-1180591620717411303424, none), (-1180591620717411303424, none), (-1180591620717411303424, none)], [(49, [], [(0, [(0, 1)]), (0, [(3, 1)]), (0, [(4, 1)]), (0, [(5, 1)]), (0, [(6, 1)])]), (0, [], [(0, [(2, 1), (5, -1)])]), (0, [], [(0, [(2, -1), (6, 1)])])], [(49, [], [(0, [(0, 1)]), (0, [(3, 1)]), (0, [(4, 1)]), (0, [(5, 1)]), (0, [(6, 1)])])]))
theorem q_m73_ok : ∀ (g : Int → Int → Int) (ln : Int → Int) (kf : Int → Nat) (ρ : List Int) (a i x : Int), sv_BOk ρ q_m73.2.1 → (∀ f ∈ q_m73.2.2.1, sv_FQk q_Ks q_Q g ln kf ρ f) → sv_nth ρ 0 = some a → sv_nth ρ 1 = some i → sv_nth ρ 2 = some x → 0 ≤ a → 0 ≤ i → i < ln a → kf a = q_m73.1 → ∀ f ∈ q_m73.2.2.2, sv_FQk q_Ks q_Q (sv_put g a i x) ln kf ρ f := by
  intro g ln kf ρ a i x hb hf n0 n1 n2 p0 p1 p2 p3
  obtain ⟨hl, hb⟩ := hb
  obtain ⟨xa, r0, rfl, l0⟩ := sv_lens hl
  obtain ⟨xi, r1, rfl, l1⟩ := sv_lens l0
  obtain ⟨xx, r2, rfl, l2⟩ := sv_lens l1
  obtain ⟨xlo, r3, rfl, l3⟩ := sv_lens l2
  obtain ⟨xhi, r4, rfl, l4⟩ := sv_lens l3
  obtain ⟨xl, r5, rfl, l5⟩ := sv_lens l4
  obtain ⟨xu, r6, rfl, l6⟩ := sv_lens l5
  obtain rfl := sv_len0 l6
  clear l0 l1 l2 l3 l4 l5 l6 hl
  have ba : 0 ≤ xa := (hb 0 _ _ rfl rfl).1
  clear hb
  obtain rfl : xa = a := by simpa [sv_nth] using n0
  obtain rfl : xi = i := by simpa [sv_nth] using n1
  obtain rfl : xx = x := by simpa [sv_nth] using n2
  clear n0 n1 n2
  have p3 : kf xa = 99 := p3
  have h0 := hf _ (List.mem_of_getElem? (i := 0) rfl)
  simp [sv_FQk, sv_FQ, sv_evs, sv_ev, sv_evT, sv_nth, sv_adq, sv_gs, q_Ks_33, q_Q_33] at h0
  have h1 := hf _ (List.mem_of_getElem? (i := 1) rfl)
  simp [sv_FQk, sv_FQ, sv_evs, sv_ev, sv_evT, sv_nth, sv_adq, sv_gs] at h1
  have h2 := hf _ (List.mem_of_getElem? (i := 2) rfl)
  simp [sv_FQk, sv_FQ, sv_evs, sv_ev, sv_evT, sv_nth, sv_adq, sv_gs] at h2
  clear hf
  obtain ⟨⟨-, Ka⟩, h0⟩ := h0
  rw [sv_Qlin_iff] at h0
  intro f hf
  have hf : f ∈ [(49, [], [(0, [(0, 1)]), (0, [(3, 1)]), (0, [(4, 1)]), (0, [(5, 1)]), (0, [(6, 1)])])] := hf
  simp only [List.mem_cons, List.not_mem_nil, or_false] at hf
  subst hf
  · simp [sv_FQk, sv_FQ, sv_evs, sv_ev, sv_evT, sv_nth, sv_adq, sv_gs, q_Ks_33, q_Q_33]
    refine ⟨⟨ba, Ka⟩, ?_⟩
    rw [sv_Qlin_iff]
    simp only [sv_put_eq]
    intro j j1 j2
    by_cases e : j = xi
    · rw [if_pos e]
      try rw [e]
      omega
    · rw [if_neg e]
      exact h0 j j1 j2
-- wf_o
def q_m74 : Nat × SvM := (99, ([(0, none), (-1180591620717411303424, none), (-1180591620717411303424, none), (-1180591620717411303424, none), (-1180591620717411303424, none), (-1180591620717411303424, none), (-1180591620717411303424, none)], [(49, [], [(0, [(0, 1)]), (0, [(3, 1)]), (0, [(4, 1)]), (0, [(5, 1)]), (0, [(6, 1)])]), (0, [], [(0, [(1, 1), (4, -1)])])], [(49, [], [(0, [(0, 1)]), (0, [(3, 1)]), (0, [(4, 1)]), (0, [(5, 1)]), (0, [(6, 1)])])]))
theorem q_m74_ok : ∀ (g : Int → Int → Int) (ln : Int → Int) (kf : Int → Nat) (ρ : List Int) (a i x : Int), sv_BOk ρ q_m74.2.1 → (∀ f ∈ q_m74.2.2.1, sv_FQk q_Ks q_Q g ln kf ρ f) → sv_nth ρ 0 = some a → sv_nth ρ 1 = some i → sv_nth ρ 2 = some x → 0 ≤ a → 0 ≤ i → i < ln a → kf a = q_m74.1 → ∀ f ∈ q_m74.2.2.2, sv_FQk q_Ks q_Q (sv_put g a i x) ln kf ρ f := by
  intro g ln kf ρ a i x hb hf n0 n1 n2 p0 p1 p2 p3
  obtain ⟨hl, hb⟩ := hb
  obtain ⟨xa, r0, rfl, l0⟩ := sv_lens hl
  obtain ⟨xi, r1, rfl, l1⟩ := sv_lens l0
  obtain ⟨xx, r2, rfl, l2⟩ := sv_lens l1
  obtain ⟨xlo, r3, rfl, l3⟩ := sv_lens l2
  obtain ⟨xhi, r4, rfl, l4⟩ := sv_lens l3
  obtain ⟨xl, r5, rfl, l5⟩ := sv_lens l4
  obtain ⟨xu, r6, rfl, l6⟩ := sv_lens l5
  obtain rfl := sv_len0 l6
  clear l0 l1 l2 l3 l4 l5 l6 hl
  have ba : 0 ≤ xa := (hb 0 _ _ rfl rfl).1
  clear hb
  obtain rfl : xa = a := by simpa [sv_nth] using n0
  obtain rfl : xi = i := by simpa [sv_nth] using n1
  obtain rfl : xx = x := by simpa [sv_nth] using n2
  clear n0 n1 n2
  have p3 : kf xa = 99 := p3
  have h0 := hf _ (List.mem_of_getElem? (i := 0) rfl)
  simp [sv_FQk, sv_FQ, sv_evs, sv_ev, sv_evT, sv_nth, sv_adq, sv_gs, q_Ks_33, q_Q_33] at h0
  have h1 := hf _ (List.mem_of_getElem? (i := 1) rfl)
  simp [sv_FQk, sv_FQ, sv_evs, sv_ev, sv_evT, sv_nth, sv_adq, sv_gs] at h1
  clear hf
  obtain ⟨⟨-, Ka⟩, h0⟩ := h0
  rw [sv_Qlin_iff] at h0
  intro f hf
  have hf : f ∈ [(49, [], [(0, [(0, 1)]), (0, [(3, 1)]), (0, [(4, 1)]), (0, [(5, 1)]), (0, [(6, 1)])])] := hf
  simp only [List.mem_cons, List.not_mem_nil, or_false] at hf
  subst hf
  · simp [sv_FQk, sv_FQ, sv_evs, sv_ev, sv_evT, sv_nth, sv_adq, sv_gs, q_Ks_33, q_Q_33]
    refine ⟨⟨ba, Ka⟩, ?_⟩
    rw [sv_Qlin_iff]
    simp only [sv_put_eq]
    intro j j1 j2
    rw [if_neg (by omega)]
    exact h0 j j1 j2
-- wf_p
def q_m75 : Nat × SvM := (99, ([(0, none), (-1180591620717411303424, none), (-1180591620717411303424, none), (-1180591620717411303424, none), (-1180591620717411303424, none), (-1180591620717411303424, none), (-1180591620717411303424, none)], [(49, [], [(0, [(0, 1)]), (0, [(3, 1)]), (0, [(4, 1)]), (0, [(5, 1)]), (0, [(6, 1)])]), (0, [], [(-1, [(1, -1), (3, 1)])])], [(49, [], [(0, [(0, 1)]), (0, [(3, 1)]), (0, [(4, 1)]), (0, [(5, 1)]), (0, [(6, 1)])])]))
theorem q_m75_ok : ∀ (g : Int → Int → Int) (ln : Int → Int) (kf : Int → Nat) (ρ : List Int) (a i x : Int), sv_BOk ρ q_m75.2.1 → (∀ f ∈ q_m75.2.2.1, sv_FQk q_Ks q_Q g ln kf ρ f) → sv_nth ρ 0 = some a → sv_nth ρ 1 = some i → sv_nth ρ 2 = some x → 0 ≤ a → 0 ≤ i → i < ln a → kf a = q_m75.1 → ∀ f ∈ q_m75.2.2.2, sv_FQk q_Ks q_Q (sv_put g a i x) ln kf ρ f := by
  intro g ln kf ρ a i x hb hf n0 n1 n2 p0 p1 p2 p3
  obtain ⟨hl, hb⟩ := hb
  obtain ⟨xa, r0, rfl, l0⟩ := sv_lens hl
  obtain ⟨xi, r1, rfl, l1⟩ := sv_lens l0
  obtain ⟨xx, r2, rfl, l2⟩ := sv_lens l1
  obtain ⟨xlo, r3, rfl, l3⟩ := sv_lens l2
  obtain ⟨xhi, r4, rfl, l4⟩ := sv_lens l3
  obtain ⟨xl, r5, rfl, l5⟩ := sv_lens l4
  obtain ⟨xu, r6, rfl, l6⟩ := sv_lens l5
  obtain rfl := sv_len0 l6
  clear l0 l1 l2 l3 l4 l5 l6 hl
  have ba : 0 ≤ xa := (hb 0 _ _ rfl rfl).1
  clear hb
  obtain rfl : xa = a := by simpa [sv_nth] using n0
  obtain rfl : xi = i := by simpa [sv_nth] using n1
  obtain rfl : xx = x := by simpa [sv_nth] using n2
  clear n0 n1 n2
  have p3 : kf xa = 99 := p3
  have h0 := hf _ (List.mem_of_getElem? (i := 0) rfl)
  simp [sv_FQk, sv_FQ, sv_evs, sv_ev, sv_evT, sv_nth, sv_adq, sv_gs, q_Ks_33, q_Q_33] at h0
  have h1 := hf _ (List.mem_of_getElem? (i := 1) rfl)
  simp [sv_FQk, sv_FQ, sv_evs, sv_ev, sv_evT, sv_nth, sv_adq, sv_gs] at h1
  clear hf
  obtain ⟨⟨-, Ka⟩, h0⟩ := h0
  rw [sv_Qlin_iff] at h0
  intro f hf
  have hf : f ∈ [(49, [], [(0, [(0, 1)]), (0, [(3, 1)]), (0, [(4, 1)]), (0, [(5, 1)]), (0, [(6, 1)])])] := hf
  simp only [List.mem_cons, List.not_mem_nil, or_false] at hf
  subst hf
  · simp [sv_FQk, sv_FQ, sv_evs, sv_ev, sv_evT, sv_nth, sv_adq, sv_gs, q_Ks_33, q_Q_33]
    refine ⟨⟨ba, Ka⟩, ?_⟩
    rw [sv_Qlin_iff]
    simp only [sv_put_eq]
    intro j j1 j2
    rw [if_neg (by omega)]
    exact h0 j j1 j2
-- cp_v1
def q_m76 : Nat × SvM := (100, ([(0, none), (-1180591620717411303424, none), (-1180591620717411303424, none), (0, none), (0, none), (-1180591620717411303424, none), (-1180591620717411303424, none), (-1180591620717411303424, none), (-1180591620717411303424, none), (-1180591620717411303424, none), (-1180591620717411303424, none), (-1180591620717411303424, none), (-1180591620717411303424, none)], [(50, [], [(0, [(3, 1)]), (0, [(0, 1)]), (0, [(4, 1)]), (0, [(5, 1)]), (0, [(6, 1)]), (0, [(7, 1)]), (0, [(8, 1)])]), (4, [99, 1], [(0, [(3, 1)]), (0, [(1, 1)]), (0, [(9, 1)])]), (2, [], [(0, [(3, 1)]), (0, [(10, 1)])]), (0, [], [(0, [(1, 1)])]), (0, [], [(-1, [(1, -1), (6, 1)])]), (0, [], [(-1, [(1, -1), (10, 1)])]), (4, [100, 1], [(0, [(0, 1)]), (0, [(1, 1)]), (0, [(11, 1)])]), (2, [], [(0, [(0, 1)]), (0, [(12, 1)])]), (0, [], [(-1, [(1, -1), (12, 1)])]), (0, [], [(1, [(2, -1), (11, 1)])]), (0, [], [(-1, [(2, 1), (11, -1)])]), (0, [], [(-1, [(9, -1)])]), (0, [], [(0, [(2, -1), (7, 1)])])], [(50, [], [(0, [(3, 1)]), (0, [(0, 1)]), (0, [(4, 1)]), (0, [(5, 1)]), (0, [(6, 1)]), (0, [(7, 1)]), (-1, [(8, 1)])])]))
theorem q_m76_ok : ∀ (g : Int → Int → Int) (ln : Int → Int) (kf : Int → Nat) (ρ : List Int) (a i x : Int), sv_BOk ρ q_m76.2.1 → (∀ f ∈ q_m76.2.2.1, sv_FQk q_Ks q_Q g ln kf ρ f) → sv_nth ρ 0 = some a → sv_nth ρ 1 = some i → sv_nth ρ 2 = some x → 0 ≤ a → 0 ≤ i → i < ln a → kf a = q_m76.1 → ∀ f ∈ q_m76.2.2.2, sv_FQk q_Ks q_Q (sv_put g a i x) ln kf ρ f := by
  intro g ln kf ρ a i x hb hf n0 n1 n2 p0 p1 p2 p3
  obtain ⟨hl, hb⟩ := hb
  obtain ⟨xw, r0, rfl, l0⟩ := sv_lens hl
  obtain ⟨xi, r1, rfl, l1⟩ := sv_lens l0
  obtain ⟨xy, r2, rfl, l2⟩ := sv_lens l1
  obtain ⟨xf, r3, rfl, l3⟩ := sv_lens l2
  obtain ⟨xm, r4, rfl, l4⟩ := sv_lens l3
  obtain ⟨xb, r5, rfl, l5⟩ := sv_lens l4
  obtain ⟨xn, r6, rfl, l6⟩ := sv_lens l5
  obtain ⟨xr, r7, rfl, l7⟩ := sv_lens l6
  obtain ⟨xs, r8, rfl, l8⟩ := sv_lens l7
  obtain ⟨xx, r9, rfl, l9⟩ := sv_lens l8
  obtain ⟨xNF, r10, rfl, l10⟩ := sv_lens l9
  obtain ⟨xk, r11, rfl, l11⟩ := sv_lens l10
  obtain ⟨xNW, r12, rfl, l12⟩ := sv_lens l11
  obtain rfl := sv_len0 l12
  clear l0 l1 l2 l3 l4 l5 l6 l7 l8 l9 l10 l11 l12 hl
  have bw : 0 ≤ xw := (hb 0 _ _ rfl rfl).1
  have bf : 0 ≤ xf := (hb 3 _ _ rfl rfl).1
  have bm : 0 ≤ xm := (hb 4 _ _ rfl rfl).1
  clear hb
  obtain rfl : xw = a := by simpa [sv_nth] using n0
  obtain rfl : xi = i := by simpa [sv_nth] using n1
  obtain rfl : xy = x := by simpa [sv_nth] using n2
  clear n0 n1 n2
  have p3 : kf xw = 100 := p3
  have h0 := hf _ (List.mem_of_getElem? (i := 0) rfl)
  simp [sv_FQk, sv_FQ, sv_evs, sv_ev, sv_evT, sv_nth, sv_adq, sv_gs, q_Ks_34, q_Q_34] at h0
  have h1 := hf _ (List.mem_of_getElem? (i := 1) rfl)
  simp [sv_FQk, sv_FQ, sv_evs, sv_ev, sv_evT, sv_nth, sv_adq, sv_gs] at h1
  have h2 := hf _ (List.mem_of_getElem? (i := 2) rfl)
  simp [sv_FQk, sv_FQ, sv_evs, sv_ev, sv_evT, sv_nth, sv_adq, sv_gs] at h2
  have h3 := hf _ (List.mem_of_getElem? (i := 3) rfl)
  simp [sv_FQk, sv_FQ, sv_evs, sv_ev, sv_evT, sv_nth, sv_adq, sv_gs] at h3
  have h4 := hf _ (List.mem_of_getElem? (i := 4) rfl)
  simp [sv_FQk, sv_FQ, sv_evs, sv_ev, sv_evT, sv_nth, sv_adq, sv_gs] at h4
  have h5 := hf _ (List.mem_of_getElem? (i := 5) rfl)
  simp [sv_FQk, sv_FQ, sv_evs, sv_ev, sv_evT, sv_nth, sv_adq, sv_gs] at h5
  have h6 := hf _ (List.mem_of_getElem? (i := 6) rfl)
  simp [sv_FQk, sv_FQ, sv_evs, sv_ev, sv_evT, sv_nth, sv_adq, sv_gs] at h6
  have h7 := hf _ (List.mem_of_getElem? (i := 7) rfl)
  simp [sv_FQk, sv_FQ, sv_evs, sv_ev, sv_evT, sv_nth, sv_adq, sv_gs] at h7
  have h8 := hf _ (List.mem_of_getElem? (i := 8) rfl)
  simp [sv_FQk, sv_FQ, sv_evs, sv_ev, sv_evT, sv_nth, sv_adq, sv_gs] at h8
  have h9 := hf _ (List.mem_of_getElem? (i := 9) rfl)
  simp [sv_FQk, sv_FQ, sv_evs, sv_ev, sv_evT, sv_nth, sv_adq, sv_gs] at h9
  have h10 := hf _ (List.mem_of_getElem? (i := 10) rfl)
  simp [sv_FQk, sv_FQ, sv_evs, sv_ev, sv_evT, sv_nth, sv_adq, sv_gs] at h10
  have h11 := hf _ (List.mem_of_getElem? (i := 11) rfl)
  simp [sv_FQk, sv_FQ, sv_evs, sv_ev, sv_evT, sv_nth, sv_adq, sv_gs] at h11
  have h12 := hf _ (List.mem_of_getElem? (i := 12) rfl)
  simp [sv_FQk, sv_FQ, sv_evs, sv_ev, sv_evT, sv_nth, sv_adq, sv_gs] at h12
  clear hf
  obtain ⟨⟨⟨-, Kf⟩, ⟨-, Kw⟩, ⟨-, Km⟩⟩, h0⟩ := h0
  rw [sv_Qcp_iff] at h0
  replace h1 := h1 bf (by omega) (by have := h2 bf; omega)
  replace h6 := h6 bw (by omega) (by have := h7 bw; omega)
  have ef : sv_put g xw xi xy xf = g xf := sv_put_ne (sv_kf_ne Kf p3 (by decide))
  have em : sv_put g xw xi xy xm = g xm := sv_put_ne (sv_kf_ne Km p3 (by decide))
  intro f hf
  have hf : f ∈ [(50, [], [(0, [(3, 1)]), (0, [(0, 1)]), (0, [(4, 1)]), (0, [(5, 1)]), (0, [(6, 1)]), (0, [(7, 1)]), (-1, [(8, 1)])])] := hf
  simp only [List.mem_cons, List.not_mem_nil, or_false] at hf
  subst hf
  · simp [sv_FQk, sv_FQ, sv_evs, sv_ev, sv_evT, sv_nth, sv_adq, sv_gs, q_Ks_34, q_Q_34]
    refine ⟨⟨⟨bf, Kf⟩, ⟨bw, Kw⟩, ⟨bm, Km⟩⟩, ?_⟩
    rw [sv_Qcp_iff]
    simp only [sv_put_eq, ef, em]
    have c : sv_cap (g xf) (g xm) xb xr xi = xr := by
      unfold sv_cap
      rw [h1]
      exact if_pos (by omega)
    refine ⟨fun j j1 j2 => ?_, ?_⟩
    · by_cases e : j = xi
      · rw [if_pos e, e, c]
        omega
      · rw [if_neg e]
        exact h0.1 j j1 j2
    · have q := sv_sum_upd2 (f := fun j => sv_cap (g xf) (g xm) xb xr j - g xw j) (g := fun j => sv_cap (g xf) (g xm) xb xr j - (if j = xi then xy else g xw j)) (i := xi) (x := sv_cap (g xf) (g xm) xb xr xi - xy) (y := sv_cap (g xf) (g xm) xb xr xi - xk) (n := xn.toNat) (fun j hj => by simp only [if_neg hj]) (by omega) (by omega) (by show _ - (if xi = xi then xy else g xw xi) = _; rw [if_pos rfl]) (by show _ - g xw xi = _; rw [h6])
      have := h0.2
      omega
-- cp_v2
def q_m77 : Nat × SvM := (100, ([(0, none), (-1180591620717411303424, none), (-1180591620717411303424, none), (0, none), (0, none), (-1180591620717411303424, none), (-1180591620717411303424, none), (-1180591620717411303424, none), (-1180591620717411303424, none), (-1180591620717411303424, none), (-1180591620717411303424, none), (-1180591620717411303424, none), (-1180591620717411303424, none), (-1180591620717411303424, none), (-1180591620717411303424, none)], [(50, [], [(0, [(3, 1)]), (0, [(0, 1)]), (0, [(4, 1)]), (0, [(5, 1)]), (0, [(6, 1)]), (0, [(7, 1)]), (0, [(8, 1)])]), (4, [99, 1], [(0, [(3, 1)]), (0, [(1, 1)]), (0, [(9, 1)])]), (2, [], [(0, [(3, 1)]), (0, [(10, 1)])]), (0, [], [(0, [(1, 1)])]), (0, [], [(-1, [(1, -1), (6, 1)])]), (0, [], [(-1, [(1, -1), (10, 1)])]), (4, [100, 1], [(0, [(0, 1)]), (0, [(1, 1)]), (0, [(11, 1)])]), (2, [], [(0, [(0, 1)]), (0, [(12, 1)])]), (0, [], [(-1, [(1, -1), (12, 1)])]), (0, [], [(1, [(2, -1), (11, 1)])]), (0, [], [(-1, [(2, 1), (11, -1)])]), (0, [], [(0, [(9, 1)])]), (4, [93, 1], [(0, [(4, 1)]), (0, [(5, 1), (9, 1)]), (0, [(13, 1)])]), (2, [], [(0, [(4, 1)]), (0, [(14, 1)])]), (0, [], [(0, [(5, 1)])]), (0, [], [(-1, [(5, -1), (9, -1), (14, 1)])]), (0, [], [(0, [(2, -1), (13, 2)])])], [(50, [], [(0, [(3, 1)]), (0, [(0, 1)]), (0, [(4, 1)]), (0, [(5, 1)]), (0, [(6, 1)]), (0, [(7, 1)]), (-1, [(8, 1)])])]))
theorem q_m77_ok : ∀ (g : Int → Int → Int) (ln : Int → Int) (kf : Int → Nat) (ρ : List Int) (a i x : Int), sv_BOk ρ q_m77.2.1 → (∀ f ∈ q_m77.2.2.1, sv_FQk q_Ks q_Q g ln kf ρ f) → sv_nth ρ 0 = some a → sv_nth ρ 1 = some i → sv_nth ρ 2 = some x → 0 ≤ a → 0 ≤ i → i < ln a → kf a = q_m77.1 → ∀ f ∈ q_m77.2.2.2, sv_FQk q_Ks q_Q (sv_put g a i x) ln kf ρ f := by
  intro g ln kf ρ a i x hb hf n0 n1 n2 p0 p1 p2 p3
  obtain ⟨hl, hb⟩ := hb
  obtain ⟨xw, r0, rfl, l0⟩ := sv_lens hl
  obtain ⟨xi, r1, rfl, l1⟩ := sv_lens l0
  obtain ⟨xy, r2, rfl, l2⟩ := sv_lens l1
  obtain ⟨xf, r3, rfl, l3⟩ := sv_lens l2
  obtain ⟨xm, r4, rfl, l4⟩ := sv_lens l3
  obtain ⟨xb, r5, rfl, l5⟩ := sv_lens l4
  obtain ⟨xn, r6, rfl, l6⟩ := sv_lens l5
  obtain ⟨xr, r7, rfl, l7⟩ := sv_lens l6
  obtain ⟨xs, r8, rfl, l8⟩ := sv_lens l7
  obtain ⟨xx, r9, rfl, l9⟩ := sv_lens l8
  obtain ⟨xNF, r10, rfl, l10⟩ := sv_lens l9
  obtain ⟨xk, r11, rfl, l11⟩ := sv_lens l10
  obtain ⟨xNW, r12, rfl, l12⟩ := sv_lens l11
  obtain ⟨xz, r13, rfl, l13⟩ := sv_lens l12
  obtain ⟨xNM, r14, rfl, l14⟩ := sv_lens l13
  obtain rfl := sv_len0 l14
  clear l0 l1 l2 l3 l4 l5 l6 l7 l8 l9 l10 l11 l12 l13 l14 hl
  have bw : 0 ≤ xw := (hb 0 _ _ rfl rfl).1
  have bf : 0 ≤ xf := (hb 3 _ _ rfl rfl).1
  have bm : 0 ≤ xm := (hb 4 _ _ rfl rfl).1
  clear hb
  obtain rfl : xw = a := by simpa [sv_nth] using n0
  obtain rfl : xi = i := by simpa [sv_nth] using n1
  obtain rfl : xy = x := by simpa [sv_nth] using n2
  clear n0 n1 n2
  have p3 : kf xw = 100 := p3
  have h0 := hf _ (List.mem_of_getElem? (i := 0) rfl)
  simp [sv_FQk, sv_FQ, sv_evs, sv_ev, sv_evT, sv_nth, sv_adq, sv_gs, q_Ks_34, q_Q_34] at h0
  have h1 := hf _ (List.mem_of_getElem? (i := 1) rfl)
  simp [sv_FQk, sv_FQ, sv_evs, sv_ev, sv_evT, sv_nth, sv_adq, sv_gs] at h1
  have h2 := hf _ (List.mem_of_getElem? (i := 2) rfl)
  simp [sv_FQk, sv_FQ, sv_evs, sv_ev, sv_evT, sv_nth, sv_adq, sv_gs] at h2
  have h3 := hf _ (List.mem_of_getElem? (i := 3) rfl)
  simp [sv_FQk, sv_FQ, sv_evs, sv_ev, sv_evT, sv_nth, sv_adq, sv_gs] at h3
  have h4 := hf _ (List.mem_of_getElem? (i := 4) rfl)
  simp [sv_FQk, sv_FQ, sv_evs, sv_ev, sv_evT, sv_nth, sv_adq, sv_gs] at h4
  have h5 := hf _ (List.mem_of_getElem? (i := 5) rfl)
  simp [sv_FQk, sv_FQ, sv_evs, sv_ev, sv_evT, sv_nth, sv_adq, sv_gs] at h5
  have h6 := hf _ (List.mem_of_getElem? (i := 6) rfl)
  simp [sv_FQk, sv_FQ, sv_evs, sv_ev, sv_evT, sv_nth, sv_adq, sv_gs] at h6
  have h7 := hf _ (List.mem_of_getElem? (i := 7) rfl)
  simp [sv_FQk, sv_FQ, sv_evs, sv_ev, sv_evT, sv_nth, sv_adq, sv_gs] at h7
  have h8 := hf _ (List.mem_of_getElem? (i := 8) rfl)
  simp [sv_FQk, sv_FQ, sv_evs, sv_ev, sv_evT, sv_nth, sv_adq, sv_gs] at h8
  have h9 := hf _ (List.mem_of_getElem? (i := 9) rfl)
  simp [sv_FQk, sv_FQ, sv_evs, sv_ev, sv_evT, sv_nth, sv_adq, sv_gs] at h9
  have h10 := hf _ (List.mem_of_getElem? (i := 10) rfl)
  simp [sv_FQk, sv_FQ, sv_evs, sv_ev, sv_evT, sv_nth, sv_adq, sv_gs] at h10
  have h11 := hf _ (List.mem_of_getElem? (i := 11) rfl)
  simp [sv_FQk, sv_FQ, sv_evs, sv_ev, sv_evT, sv_nth, sv_adq, sv_gs] at h11
  have h12 := hf _ (List.mem_of_getElem? (i := 12) rfl)
  simp [sv_FQk, sv_FQ, sv_evs, sv_ev, sv_evT, sv_nth, sv_adq, sv_gs] at h12
  have h13 := hf _ (List.mem_of_getElem? (i := 13) rfl)
  simp [sv_FQk, sv_FQ, sv_evs, sv_ev, sv_evT, sv_nth, sv_adq, sv_gs] at h13
  have h14 := hf _ (List.mem_of_getElem? (i := 14) rfl)
  simp [sv_FQk, sv_FQ, sv_evs, sv_ev, sv_evT, sv_nth, sv_adq, sv_gs] at h14
  have h15 := hf _ (List.mem_of_getElem? (i := 15) rfl)
  simp [sv_FQk, sv_FQ, sv_evs, sv_ev, sv_evT, sv_nth, sv_adq, sv_gs] at h15
  have h16 := hf _ (List.mem_of_getElem? (i := 16) rfl)
  simp [sv_FQk, sv_FQ, sv_evs, sv_ev, sv_evT, sv_nth, sv_adq, sv_gs] at h16
  clear hf
  obtain ⟨⟨⟨-, Kf⟩, ⟨-, Kw⟩, ⟨-, Km⟩⟩, h0⟩ := h0
  rw [sv_Qcp_iff] at h0
  replace h1 := h1 bf (by omega) (by have := h2 bf; omega)
  replace h6 := h6 bw (by omega) (by have := h7 bw; omega)
  replace h12 := h12 bm (by omega) (by have := h13 bm; omega)
  have ef : sv_put g xw xi xy xf = g xf := sv_put_ne (sv_kf_ne Kf p3 (by decide))
  have em : sv_put g xw xi xy xm = g xm := sv_put_ne (sv_kf_ne Km p3 (by decide))
  intro f hf
  have hf : f ∈ [(50, [], [(0, [(3, 1)]), (0, [(0, 1)]), (0, [(4, 1)]), (0, [(5, 1)]), (0, [(6, 1)]), (0, [(7, 1)]), (-1, [(8, 1)])])] := hf
  simp only [List.mem_cons, List.not_mem_nil, or_false] at hf
  subst hf
  · simp [sv_FQk, sv_FQ, sv_evs, sv_ev, sv_evT, sv_nth, sv_adq, sv_gs, q_Ks_34, q_Q_34]
    refine ⟨⟨⟨bf, Kf⟩, ⟨bw, Kw⟩, ⟨bm, Km⟩⟩, ?_⟩
    rw [sv_Qcp_iff]
    simp only [sv_put_eq, ef, em]
    have u : g xm (xb + xx) = xz := sv_fat (by omega) h12
    have c : sv_cap (g xf) (g xm) xb xr xi = 2 * xz := by
      unfold sv_cap
      rw [h1, if_neg (by omega), u]
    refine ⟨fun j j1 j2 => ?_, ?_⟩
    · by_cases e : j = xi
      · rw [if_pos e, e, c]
        omega
      · rw [if_neg e]
        exact h0.1 j j1 j2
    · have q := sv_sum_upd2 (f := fun j => sv_cap (g xf) (g xm) xb xr j - g xw j) (g := fun j => sv_cap (g xf) (g xm) xb xr j - (if j = xi then xy else g xw j)) (i := xi) (x := sv_cap (g xf) (g xm) xb xr xi - xy) (y := sv_cap (g xf) (g xm) xb xr xi - xk) (n := xn.toNat) (fun j hj => by simp only [if_neg hj]) (by omega) (by omega) (by show _ - (if xi = xi then xy else g xw xi) = _; rw [if_pos rfl]) (by show _ - g xw xi = _; rw [h6])
      have := h0.2
      omega
-- cp_s1
def q_m78 : Nat × SvM := (99, ([(0, none), (-1180591620717411303424, none), (-1180591620717411303424, none), (0, none), (0, none), (-1180591620717411303424, none), (-1180591620717411303424, none), (-1180591620717411303424, none), (-1180591620717411303424, none)], [(50, [], [(0, [(0, 1)]), (0, [(3, 1)]), (0, [(4, 1)]), (0, [(5, 1)]), (0, [(6, 1)]), (0, [(7, 1)]), (0, [(8, 1)])]), (0, [], [(0, [(1, 1), (6, -1)])])], [(50, [], [(0, [(0, 1)]), (0, [(3, 1)]), (0, [(4, 1)]), (0, [(5, 1)]), (0, [(6, 1)]), (0, [(7, 1)]), (0, [(8, 1)])])]))
theorem q_m78_ok : ∀ (g : Int → Int → Int) (ln : Int → Int) (kf : Int → Nat) (ρ : List Int) (a i x : Int), sv_BOk ρ q_m78.2.1 → (∀ f ∈ q_m78.2.2.1, sv_FQk q_Ks q_Q g ln kf ρ f) → sv_nth ρ 0 = some a → sv_nth ρ 1 = some i → sv_nth ρ 2 = some x → 0 ≤ a → 0 ≤ i → i < ln a → kf a = q_m78.1 → ∀ f ∈ q_m78.2.2.2, sv_FQk q_Ks q_Q (sv_put g a i x) ln kf ρ f := by
  intro g ln kf ρ a i x hb hf n0 n1 n2 p0 p1 p2 p3
  obtain ⟨hl, hb⟩ := hb
  obtain ⟨xf, r0, rfl, l0⟩ := sv_lens hl
  obtain ⟨xi, r1, rfl, l1⟩ := sv_lens l0
  obtain ⟨xx, r2, rfl, l2⟩ := sv_lens l1
  obtain ⟨xw, r3, rfl, l3⟩ := sv_lens l2
  obtain ⟨xm, r4, rfl, l4⟩ := sv_lens l3
  obtain ⟨xb, r5, rfl, l5⟩ := sv_lens l4
  obtain ⟨xn, r6, rfl, l6⟩ := sv_lens l5
  obtain ⟨xr, r7, rfl, l7⟩ := sv_lens l6
  obtain ⟨xs, r8, rfl, l8⟩ := sv_lens l7
  obtain rfl := sv_len0 l8
  clear l0 l1 l2 l3 l4 l5 l6 l7 l8 hl
  have bf : 0 ≤ xf := (hb 0 _ _ rfl rfl).1
  have bw : 0 ≤ xw := (hb 3 _ _ rfl rfl).1
  have bm : 0 ≤ xm := (hb 4 _ _ rfl rfl).1
  clear hb
  obtain rfl : xf = a := by simpa [sv_nth] using n0
  obtain rfl : xi = i := by simpa [sv_nth] using n1
  obtain rfl : xx = x := by simpa [sv_nth] using n2
  clear n0 n1 n2
  have p3 : kf xf = 99 := p3
  have h0 := hf _ (List.mem_of_getElem? (i := 0) rfl)
  simp [sv_FQk, sv_FQ, sv_evs, sv_ev, sv_evT, sv_nth, sv_adq, sv_gs, q_Ks_34, q_Q_34] at h0
  have h1 := hf _ (List.mem_of_getElem? (i := 1) rfl)
  simp [sv_FQk, sv_FQ, sv_evs, sv_ev, sv_evT, sv_nth, sv_adq, sv_gs] at h1
  clear hf
  obtain ⟨⟨⟨-, Kf⟩, ⟨-, Kw⟩, ⟨-, Km⟩⟩, h0⟩ := h0
  rw [sv_Qcp_iff] at h0
  have ew : sv_put g xf xi xx xw = g xw := sv_put_ne (sv_kf_ne Kw p3 (by decide))
  have em : sv_put g xf xi xx xm = g xm := sv_put_ne (sv_kf_ne Km p3 (by decide))
  intro f hf
  have hf : f ∈ [(50, [], [(0, [(0, 1)]), (0, [(3, 1)]), (0, [(4, 1)]), (0, [(5, 1)]), (0, [(6, 1)]), (0, [(7, 1)]), (0, [(8, 1)])])] := hf
  simp only [List.mem_cons, List.not_mem_nil, or_false] at hf
  subst hf
  · simp [sv_FQk, sv_FQ, sv_evs, sv_ev, sv_evT, sv_nth, sv_adq, sv_gs, q_Ks_34, q_Q_34]
    refine ⟨⟨⟨bf, Kf⟩, ⟨bw, Kw⟩, ⟨bm, Km⟩⟩, ?_⟩
    rw [sv_Qcp_iff]
    simp only [sv_put_eq, ew, em]
    have c : ∀ j, 0 ≤ j → j < xn → sv_cap (fun k => if k = xi then xx else g xf k) (g xm) xb xr j = sv_cap (g xf) (g xm) xb xr j := fun j _ hj => by
      show (if (if j = xi then xx else g xf j) < 0 then xr else 2 * g xm (xb + (if j = xi then xx else g xf j))) = sv_cap (g xf) (g xm) xb xr j
      rw [if_neg (show ¬ j = xi by omega)]
      rfl
    refine ⟨fun j j1 j2 => by rw [c j j1 j2]; exact h0.1 j j1 j2, ?_⟩
    rw [sv_sum_congr (g := fun i => sv_cap (g xf) (g xm) xb xr i - g xw i) (fun j j1 j2 => by rw [c j j1 (by omega)])]
    exact h0.2
-- cp_s2
def q_m79 : Nat × SvM := (100, ([(0, none), (-1180591620717411303424, none), (-1180591620717411303424, none), (0, none), (0, none), (-1180591620717411303424, none), (-1180591620717411303424, none), (-1180591620717411303424, none), (-1180591620717411303424, none)], [(50, [], [(0, [(3, 1)]), (0, [(0, 1)]), (0, [(4, 1)]), (0, [(5, 1)]), (0, [(6, 1)]), (0, [(7, 1)]), (0, [(8, 1)])]), (0, [], [(0, [(1, 1), (6, -1)])])], [(50, [], [(0, [(3, 1)]), (0, [(0, 1)]), (0, [(4, 1)]), (0, [(5, 1)]), (0, [(6, 1)]), (0, [(7, 1)]), (0, [(8, 1)])])]))
theorem q_m79_ok : ∀ (g : Int → Int → Int) (ln : Int → Int) (kf : Int → Nat) (ρ : List Int) (a i x : Int), sv_BOk ρ q_m79.2.1 → (∀ f ∈ q_m79.2.2.1, sv_FQk q_Ks q_Q g ln kf ρ f) → sv_nth ρ 0 = some a → sv_nth ρ 1 = some i → sv_nth ρ 2 = some x → 0 ≤ a → 0 ≤ i → i < ln a → kf a = q_m79.1 → ∀ f ∈ q_m79.2.2.2, sv_FQk q_Ks q_Q (sv_put g a i x) ln kf ρ f := by
  intro g ln kf ρ a i x hb hf n0 n1 n2 p0 p1 p2 p3
  obtain ⟨hl, hb⟩ := hb
  obtain ⟨xw, r0, rfl, l0⟩ := sv_lens hl
  obtain ⟨xi, r1, rfl, l1⟩ := sv_lens l0
  obtain ⟨xx, r2, rfl, l2⟩ := sv_lens l1
  obtain ⟨xf, r3, rfl, l3⟩ := sv_lens l2
  obtain ⟨xm, r4, rfl, l4⟩ := sv_lens l3
  obtain ⟨xb, r5, rfl, l5⟩ := sv_lens l4
  obtain ⟨xn, r6, rfl, l6⟩ := sv_lens l5
  obtain ⟨xr, r7, rfl, l7⟩ := sv_lens l6
  obtain ⟨xs, r8, rfl, l8⟩ := sv_lens l7
  obtain rfl := sv_len0 l8
  clear l0 l1 l2 l3 l4 l5 l6 l7 l8 hl
  have bw : 0 ≤ xw := (hb 0 _ _ rfl rfl).1
  have bf : 0 ≤ xf := (hb 3 _ _ rfl rfl).1
  have bm : 0 ≤ xm := (hb 4 _ _ rfl rfl).1
  clear hb
  obtain rfl : xw = a := by simpa [sv_nth] using n0
  obtain rfl : xi = i := by simpa [sv_nth] using n1
  obtain rfl : xx = x := by simpa [sv_nth] using n2
  clear n0 n1 n2
  have p3 : kf xw = 100 := p3
  have h0 := hf _ (List.mem_of_getElem? (i := 0) rfl)
  simp [sv_FQk, sv_FQ, sv_evs, sv_ev, sv_evT, sv_nth, sv_adq, sv_gs, q_Ks_34, q_Q_34] at h0
  have h1 := hf _ (List.mem_of_getElem? (i := 1) rfl)
  simp [sv_FQk, sv_FQ, sv_evs, sv_ev, sv_evT, sv_nth, sv_adq, sv_gs] at h1
  clear hf
  obtain ⟨⟨⟨-, Kf⟩, ⟨-, Kw⟩, ⟨-, Km⟩⟩, h0⟩ := h0
  rw [sv_Qcp_iff] at h0
  have ef : sv_put g xw xi xx xf = g xf := sv_put_ne (sv_kf_ne Kf p3 (by decide))
  have em : sv_put g xw xi xx xm = g xm := sv_put_ne (sv_kf_ne Km p3 (by decide))
  intro f hf
  have hf : f ∈ [(50, [], [(0, [(3, 1)]), (0, [(0, 1)]), (0, [(4, 1)]), (0, [(5, 1)]), (0, [(6, 1)]), (0, [(7, 1)]), (0, [(8, 1)])])] := hf
  simp only [List.mem_cons, List.not_mem_nil, or_false] at hf
  subst hf
  · simp [sv_FQk, sv_FQ, sv_evs, sv_ev, sv_evT, sv_nth, sv_adq, sv_gs, q_Ks_34, q_Q_34]
    refine ⟨⟨⟨bf, Kf⟩, ⟨bw, Kw⟩, ⟨bm, Km⟩⟩, ?_⟩
    rw [sv_Qcp_iff]
    simp only [sv_put_eq, ef, em]
    refine ⟨fun j j1 j2 => by rw [if_neg (by omega)]; exact h0.1 j j1 j2, ?_⟩
    rw [sv_sum_congr (g := fun i => sv_cap (g xf) (g xm) xb xr i - g xw i) (fun j j1 j2 => by rw [if_neg (by omega)])]
    exact h0.2
-- cp_s3
def q_m80 : Nat × SvM := (93, ([(0, none), (-1180591620717411303424, none), (-1180591620717411303424, none), (0, none), (0, none), (-1180591620717411303424, none), (-1180591620717411303424, none), (-1180591620717411303424, none), (-1180591620717411303424, none), (-1180591620717411303424, none)], [(50, [], [(0, [(3, 1)]), (0, [(4, 1)]), (0, [(0, 1)]), (0, [(5, 1)]), (0, [(6, 1)]), (0, [(7, 1)]), (0, [(8, 1)])]), (49, [], [(0, [(3, 1)]), (0, []), (0, [(6, 1)]), (-1, []), (-1, [(9, 1)])]), (0, [], [(0, [(1, 1), (5, -1), (9, -1)])])], [(50, [], [(0, [(3, 1)]), (0, [(4, 1)]), (0, [(0, 1)]), (0, [(5, 1)]), (0, [(6, 1)]), (0, [(7, 1)]), (0, [(8, 1)])])]))
theorem q_m80_ok : ∀ (g : Int → Int → Int) (ln : Int → Int) (kf : Int → Nat) (ρ : List Int) (a i x : Int), sv_BOk ρ q_m80.2.1 → (∀ f ∈ q_m80.2.2.1, sv_FQk q_Ks q_Q g ln kf ρ f) → sv_nth ρ 0 = some a → sv_nth ρ 1 = some i → sv_nth ρ 2 = some x → 0 ≤ a → 0 ≤ i → i < ln a → kf a = q_m80.1 → ∀ f ∈ q_m80.2.2.2, sv_FQk q_Ks q_Q (sv_put g a i x) ln kf ρ f := by
  intro g ln kf ρ a i x hb hf n0 n1 n2 p0 p1 p2 p3
  obtain ⟨hl, hb⟩ := hb
  obtain ⟨xm, r0, rfl, l0⟩ := sv_lens hl
  obtain ⟨xi, r1, rfl, l1⟩ := sv_lens l0
  obtain ⟨xx, r2, rfl, l2⟩ := sv_lens l1
  obtain ⟨xf, r3, rfl, l3⟩ := sv_lens l2
  obtain ⟨xw, r4, rfl, l4⟩ := sv_lens l3
  obtain ⟨xb, r5, rfl, l5⟩ := sv_lens l4
  obtain ⟨xn, r6, rfl, l6⟩ := sv_lens l5
  obtain ⟨xr, r7, rfl, l7⟩ := sv_lens l6
  obtain ⟨xs, r8, rfl, l8⟩ := sv_lens l7
  obtain ⟨xk, r9, rfl, l9⟩ := sv_lens l8
  obtain rfl := sv_len0 l9
  clear l0 l1 l2 l3 l4 l5 l6 l7 l8 l9 hl
  have bm : 0 ≤ xm := (hb 0 _ _ rfl rfl).1
  have bf : 0 ≤ xf := (hb 3 _ _ rfl rfl).1
  have bw : 0 ≤ xw := (hb 4 _ _ rfl rfl).1
  clear hb
  obtain rfl : xm = a := by simpa [sv_nth] using n0
  obtain rfl : xi = i := by simpa [sv_nth] using n1
  obtain rfl : xx = x := by simpa [sv_nth] using n2
  clear n0 n1 n2
  have p3 : kf xm = 93 := p3
  have h0 := hf _ (List.mem_of_getElem? (i := 0) rfl)
  simp [sv_FQk, sv_FQ, sv_evs, sv_ev, sv_evT, sv_nth, sv_adq, sv_gs, q_Ks_34, q_Q_34] at h0
  have h1 := hf _ (List.mem_of_getElem? (i := 1) rfl)
  simp [sv_FQk, sv_FQ, sv_evs, sv_ev, sv_evT, sv_nth, sv_adq, sv_gs, q_Ks_33, q_Q_33] at h1
  have h2 := hf _ (List.mem_of_getElem? (i := 2) rfl)
  simp [sv_FQk, sv_FQ, sv_evs, sv_ev, sv_evT, sv_nth, sv_adq, sv_gs] at h2
  clear hf
  obtain ⟨⟨⟨-, Kf⟩, ⟨-, Kw⟩, ⟨-, Km⟩⟩, h0⟩ := h0
  rw [sv_Qcp_iff] at h0
  obtain ⟨⟨-, Kf⟩, h1⟩ := h1
  rw [sv_Qlin_iff] at h1
  have ef : sv_put g xm xi xx xf = g xf := sv_put_ne (sv_kf_ne Kf p3 (by decide))
  have ew : sv_put g xm xi xx xw = g xw := sv_put_ne (sv_kf_ne Kw p3 (by decide))
  intro f hf
  have hf : f ∈ [(50, [], [(0, [(3, 1)]), (0, [(4, 1)]), (0, [(0, 1)]), (0, [(5, 1)]), (0, [(6, 1)]), (0, [(7, 1)]), (0, [(8, 1)])])] := hf
  simp only [List.mem_cons, List.not_mem_nil, or_false] at hf
  subst hf
  · simp [sv_FQk, sv_FQ, sv_evs, sv_ev, sv_evT, sv_nth, sv_adq, sv_gs, q_Ks_34, q_Q_34]
    refine ⟨⟨⟨bf, Kf⟩, ⟨bw, Kw⟩, ⟨bm, Km⟩⟩, ?_⟩
    rw [sv_Qcp_iff]
    simp only [sv_put_eq, ef, ew]
    have c : ∀ j, 0 ≤ j → j < xn → sv_cap (g xf) (fun k => if k = xi then xx else g xm k) xb xr j = sv_cap (g xf) (g xm) xb xr j := fun j j1 j2 => by
      have q := h1 j (by omega) (by omega)
      show (if g xf j < 0 then xr else 2 * (if xb + g xf j = xi then xx else g xm (xb + g xf j))) = (if g xf j < 0 then xr else 2 * g xm (xb + g xf j))
      by_cases e : g xf j < 0
      · rw [if_pos e, if_pos e]
      · rw [if_neg e, if_neg e, if_neg (by omega)]
    refine ⟨fun j j1 j2 => by rw [c j j1 j2]; exact h0.1 j j1 j2, ?_⟩
    rw [sv_sum_congr (g := fun i => sv_cap (g xf) (g xm) xb xr i - g xw i) (fun j j1 j2 => by rw [c j j1 (by omega)])]
    exact h0.2
-- src_so
def q_m81 : Nat × SvM := (97, ([(0, none), (-1180591620717411303424, none), (-1180591620717411303424, none), (0, none), (0, none), (0, none), (0, none), (0, none), (0, none), (-1180591620717411303424, none)], [(52, [], [(0, [(0, 1)]), (0, [(3, 1)]), (0, [(4, 1)]), (0, [(5, 1)]), (0, [(6, 1)]), (0, [(7, 1)]), (0, [(8, 1)]), (0, [(9, 1)])]), (0, [], [(-1, [(2, -1)])]), (0, [], [(1, [(2, 1)])])], [(52, [], [(0, [(0, 1)]), (0, [(3, 1)]), (0, [(4, 1)]), (0, [(5, 1)]), (0, [(6, 1)]), (0, [(7, 1)]), (0, [(8, 1)]), (0, [(9, 1)])])]))
theorem q_m81_ok : ∀ (g : Int → Int → Int) (ln : Int → Int) (kf : Int → Nat) (ρ : List Int) (a i x : Int), sv_BOk ρ q_m81.2.1 → (∀ f ∈ q_m81.2.2.1, sv_FQk q_Ks q_Q g ln kf ρ f) → sv_nth ρ 0 = some a → sv_nth ρ 1 = some i → sv_nth ρ 2 = some x → 0 ≤ a → 0 ≤ i → i < ln a → kf a = q_m81.1 → ∀ f ∈ q_m81.2.2.2, sv_FQk q_Ks q_Q (sv_put g a i x) ln kf ρ f := by
  intro g ln kf ρ a i x hb hf n0 n1 n2 p0 p1 p2 p3
  obtain ⟨hl, hb⟩ := hb
  obtain ⟨xso, r0, rfl, l0⟩ := sv_lens hl
  obtain ⟨xi, r1, rfl, l1⟩ := sv_lens l0
  obtain ⟨xx, r2, rfl, l2⟩ := sv_lens l1
  obtain ⟨xsf, r3, rfl, l3⟩ := sv_lens l2
  obtain ⟨xen, r4, rfl, l4⟩ := sv_lens l3
  obtain ⟨xlv, r5, rfl, l5⟩ := sv_lens l4
  obtain ⟨xlo, r6, rfl, l6⟩ := sv_lens l5
  obtain ⟨xcu, r7, rfl, l7⟩ := sv_lens l6
  obtain ⟨xns, r8, rfl, l8⟩ := sv_lens l7
  obtain ⟨xn, r9, rfl, l9⟩ := sv_lens l8
  obtain rfl := sv_len0 l9
  clear l0 l1 l2 l3 l4 l5 l6 l7 l8 l9 hl
  have bso : 0 ≤ xso := (hb 0 _ _ rfl rfl).1
  have bsf : 0 ≤ xsf := (hb 3 _ _ rfl rfl).1
  have ben : 0 ≤ xen := (hb 4 _ _ rfl rfl).1
  have blv : 0 ≤ xlv := (hb 5 _ _ rfl rfl).1
  have blo : 0 ≤ xlo := (hb 6 _ _ rfl rfl).1
  have bcu : 0 ≤ xcu := (hb 7 _ _ rfl rfl).1
  have bns : 0 ≤ xns := (hb 8 _ _ rfl rfl).1
  clear hb
  obtain rfl : xso = a := by simpa [sv_nth] using n0
  obtain rfl : xi = i := by simpa [sv_nth] using n1
  obtain rfl : xx = x := by simpa [sv_nth] using n2
  clear n0 n1 n2
  have p3 : kf xso = 97 := p3
  have h0 := hf _ (List.mem_of_getElem? (i := 0) rfl)
  simp [sv_FQk, sv_FQ, sv_evs, sv_ev, sv_evT, sv_nth, sv_adq, sv_gs, q_Ks_36, q_Q_36] at h0
  have h1 := hf _ (List.mem_of_getElem? (i := 1) rfl)
  simp [sv_FQk, sv_FQ, sv_evs, sv_ev, sv_evT, sv_nth, sv_adq, sv_gs] at h1
  have h2 := hf _ (List.mem_of_getElem? (i := 2) rfl)
  simp [sv_FQk, sv_FQ, sv_evs, sv_ev, sv_evT, sv_nth, sv_adq, sv_gs] at h2
  clear hf
  obtain ⟨⟨⟨-, Kso⟩, ⟨-, Ksf⟩, ⟨-, Ken⟩, ⟨-, Klv⟩, ⟨-, Klo⟩, ⟨-, Kcu⟩, ⟨-, Kns⟩⟩, h0⟩ := h0
  rw [sv_Qsrc_iff] at h0
  have esf : sv_put g xso xi xx xsf = g xsf := sv_put_ne (sv_kf_ne Ksf p3 (by decide))
  have een : sv_put g xso xi xx xen = g xen := sv_put_ne (sv_kf_ne Ken p3 (by decide))
  have elv : sv_put g xso xi xx xlv = g xlv := sv_put_ne (sv_kf_ne Klv p3 (by decide))
  have elo : sv_put g xso xi xx xlo = g xlo := sv_put_ne (sv_kf_ne Klo p3 (by decide))
  have ecu : sv_put g xso xi xx xcu = g xcu := sv_put_ne (sv_kf_ne Kcu p3 (by decide))
  have ens : sv_put g xso xi xx xns = g xns := sv_put_ne (sv_kf_ne Kns p3 (by decide))
  intro f hf
  have hf : f ∈ [(52, [], [(0, [(0, 1)]), (0, [(3, 1)]), (0, [(4, 1)]), (0, [(5, 1)]), (0, [(6, 1)]), (0, [(7, 1)]), (0, [(8, 1)]), (0, [(9, 1)])])] := hf
  simp only [List.mem_cons, List.not_mem_nil, or_false] at hf
  subst hf
  · simp [sv_FQk, sv_FQ, sv_evs, sv_ev, sv_evT, sv_nth, sv_adq, sv_gs, q_Ks_36, q_Q_36]
    refine ⟨⟨⟨bso, Kso⟩, ⟨bsf, Ksf⟩, ⟨ben, Ken⟩, ⟨blv, Klv⟩, ⟨blo, Klo⟩, ⟨bcu, Kcu⟩, ⟨bns, Kns⟩⟩, ?_⟩
    rw [sv_Qsrc_iff]
    simp only [sv_put_eq, esf, een, elv, elo, ecu, ens]
    intro t k t1 t2 k1 k2 k3
    by_cases e : 150 * t + k = xi
    · left
      rw [if_pos e]
      omega
    · rw [if_neg e]
      exact h0 t k t1 t2 k1 k2 k3
-- src_sf
def q_m82 : Nat × SvM := (98, ([(0, none), (-1180591620717411303424, none), (-1180591620717411303424, none), (0, none), (0, none), (0, none), (0, none), (0, none), (0, none), (-1180591620717411303424, none), (-1180591620717411303424, none), (-1180591620717411303424, none)], [(52, [], [(0, [(3, 1)]), (0, [(0, 1)]), (0, [(4, 1)]), (0, [(5, 1)]), (0, [(6, 1)]), (0, [(7, 1)]), (0, [(8, 1)]), (0, [(9, 1)])]), (4, [97, 1], [(0, [(3, 1)]), (0, [(1, 1)]), (0, [(10, 1)])]), (2, [], [(0, [(3, 1)]), (0, [(11, 1)])]), (0, [], [(0, [(1, 1)])]), (0, [], [(-1, [(1, -1), (11, 1)])]), (0, [], [(-1, [(10, -1)])]), (0, [], [(1, [(10, 1)])])], [(52, [], [(0, [(3, 1)]), (0, [(0, 1)]), (0, [(4, 1)]), (0, [(5, 1)]), (0, [(6, 1)]), (0, [(7, 1)]), (0, [(8, 1)]), (0, [(9, 1)])])]))
theorem q_m82_ok : ∀ (g : Int → Int → Int) (ln : Int → Int) (kf : Int → Nat) (ρ : List Int) (a i x : Int), sv_BOk ρ q_m82.2.1 → (∀ f ∈ q_m82.2.2.1, sv_FQk q_Ks q_Q g ln kf ρ f) → sv_nth ρ 0 = some a → sv_nth ρ 1 = some i → sv_nth ρ 2 = some x → 0 ≤ a → 0 ≤ i → i < ln a → kf a = q_m82.1 → ∀ f ∈ q_m82.2.2.2, sv_FQk q_Ks q_Q (sv_put g a i x) ln kf ρ f := by
  intro g ln kf ρ a i x hb hf n0 n1 n2 p0 p1 p2 p3
  obtain ⟨hl, hb⟩ := hb
  obtain ⟨xsf, r0, rfl, l0⟩ := sv_lens hl
  obtain ⟨xi, r1, rfl, l1⟩ := sv_lens l0
  obtain ⟨xx, r2, rfl, l2⟩ := sv_lens l1
  obtain ⟨xso, r3, rfl, l3⟩ := sv_lens l2
  obtain ⟨xen, r4, rfl, l4⟩ := sv_lens l3
  obtain ⟨xlv, r5, rfl, l5⟩ := sv_lens l4
  obtain ⟨xlo, r6, rfl, l6⟩ := sv_lens l5
  obtain ⟨xcu, r7, rfl, l7⟩ := sv_lens l6
  obtain ⟨xns, r8, rfl, l8⟩ := sv_lens l7
  obtain ⟨xn, r9, rfl, l9⟩ := sv_lens l8
  obtain ⟨xy, r10, rfl, l10⟩ := sv_lens l9
  obtain ⟨xN, r11, rfl, l11⟩ := sv_lens l10
  obtain rfl := sv_len0 l11
  clear l0 l1 l2 l3 l4 l5 l6 l7 l8 l9 l10 l11 hl
  have bsf : 0 ≤ xsf := (hb 0 _ _ rfl rfl).1
  have bso : 0 ≤ xso := (hb 3 _ _ rfl rfl).1
  have ben : 0 ≤ xen := (hb 4 _ _ rfl rfl).1
  have blv : 0 ≤ xlv := (hb 5 _ _ rfl rfl).1
  have blo : 0 ≤ xlo := (hb 6 _ _ rfl rfl).1
  have bcu : 0 ≤ xcu := (hb 7 _ _ rfl rfl).1
  have bns : 0 ≤ xns := (hb 8 _ _ rfl rfl).1
  clear hb
  obtain rfl : xsf = a := by simpa [sv_nth] using n0
  obtain rfl : xi = i := by simpa [sv_nth] using n1
  obtain rfl : xx = x := by simpa [sv_nth] using n2
  clear n0 n1 n2
  have p3 : kf xsf = 98 := p3
  have h0 := hf _ (List.mem_of_getElem? (i := 0) rfl)
  simp [sv_FQk, sv_FQ, sv_evs, sv_ev, sv_evT, sv_nth, sv_adq, sv_gs, q_Ks_36, q_Q_36] at h0
  have h1 := hf _ (List.mem_of_getElem? (i := 1) rfl)
  simp [sv_FQk, sv_FQ, sv_evs, sv_ev, sv_evT, sv_nth, sv_adq, sv_gs] at h1
  have h2 := hf _ (List.mem_of_getElem? (i := 2) rfl)
  simp [sv_FQk, sv_FQ, sv_evs, sv_ev, sv_evT, sv_nth, sv_adq, sv_gs] at h2
  have h3 := hf _ (List.mem_of_getElem? (i := 3) rfl)
  simp [sv_FQk, sv_FQ, sv_evs, sv_ev, sv_evT, sv_nth, sv_adq, sv_gs] at h3
  have h4 := hf _ (List.mem_of_getElem? (i := 4) rfl)
  simp [sv_FQk, sv_FQ, sv_evs, sv_ev, sv_evT, sv_nth, sv_adq, sv_gs] at h4
  have h5 := hf _ (List.mem_of_getElem? (i := 5) rfl)
  simp [sv_FQk, sv_FQ, sv_evs, sv_ev, sv_evT, sv_nth, sv_adq, sv_gs] at h5
  have h6 := hf _ (List.mem_of_getElem? (i := 6) rfl)
  simp [sv_FQk, sv_FQ, sv_evs, sv_ev, sv_evT, sv_nth, sv_adq, sv_gs] at h6
  clear hf
  obtain ⟨⟨⟨-, Kso⟩, ⟨-, Ksf⟩, ⟨-, Ken⟩, ⟨-, Klv⟩, ⟨-, Klo⟩, ⟨-, Kcu⟩, ⟨-, Kns⟩⟩, h0⟩ := h0
  rw [sv_Qsrc_iff] at h0
  replace h1 := h1 bso (by omega) (by have := h2 bso; omega)
  have eso : sv_put g xsf xi xx xso = g xso := sv_put_ne (sv_kf_ne Kso p3 (by decide))
  have een : sv_put g xsf xi xx xen = g xen := sv_put_ne (sv_kf_ne Ken p3 (by decide))
  have elv : sv_put g xsf xi xx xlv = g xlv := sv_put_ne (sv_kf_ne Klv p3 (by decide))
  have elo : sv_put g xsf xi xx xlo = g xlo := sv_put_ne (sv_kf_ne Klo p3 (by decide))
  have ecu : sv_put g xsf xi xx xcu = g xcu := sv_put_ne (sv_kf_ne Kcu p3 (by decide))
  have ens : sv_put g xsf xi xx xns = g xns := sv_put_ne (sv_kf_ne Kns p3 (by decide))
  intro f hf
  have hf : f ∈ [(52, [], [(0, [(3, 1)]), (0, [(0, 1)]), (0, [(4, 1)]), (0, [(5, 1)]), (0, [(6, 1)]), (0, [(7, 1)]), (0, [(8, 1)]), (0, [(9, 1)])])] := hf
  simp only [List.mem_cons, List.not_mem_nil, or_false] at hf
  subst hf
  · simp [sv_FQk, sv_FQ, sv_evs, sv_ev, sv_evT, sv_nth, sv_adq, sv_gs, q_Ks_36, q_Q_36]
    refine ⟨⟨⟨bso, Kso⟩, ⟨bsf, Ksf⟩, ⟨ben, Ken⟩, ⟨blv, Klv⟩, ⟨blo, Klo⟩, ⟨bcu, Kcu⟩, ⟨bns, Kns⟩⟩, ?_⟩
    rw [sv_Qsrc_iff]
    simp only [sv_put_eq, eso, een, elv, elo, ecu, ens]
    intro t k t1 t2 k1 k2 k3
    have q := h0 t k t1 t2 k1 k2 k3
    by_cases e : 150 * t + k = xi
    · left
      rw [e]
      omega
    · rw [if_neg e]
      exact q
-- src_e0
def q_m83 : Nat × SvM := (84, ([(0, none), (-1180591620717411303424, none), (-1180591620717411303424, none), (0, none), (0, none), (0, none), (0, none), (0, none), (0, none), (-1180591620717411303424, none), (-1180591620717411303424, none), (-1180591620717411303424, none), (-1180591620717411303424, none), (-1180591620717411303424, none), (-1180591620717411303424, none), (-1180591620717411303424, none), (-1180591620717411303424, none), (-1180591620717411303424, none), (-1180591620717411303424, none)], [(52, [], [(0, [(3, 1)]), (0, [(4, 1)]), (0, [(0, 1)]), (0, [(5, 1)]), (0, [(6, 1)]), (0, [(7, 1)]), (0, [(8, 1)]), (0, [(9, 1)])]), (4, [75, 1], [(0, [(5, 1)]), (0, [(10, 1)]), (0, [(11, 1)])]), (2, [], [(0, [(5, 1)]), (0, [(12, 1)])]), (0, [], [(-1, [(10, -1), (12, 1)])]), (4, [76, 1], [(0, [(6, 1)]), (0, [(10, 1)]), (0, [(13, 1)])]), (2, [], [(0, [(6, 1)]), (0, [(14, 1)])]), (0, [], [(-1, [(10, -1), (14, 1)])]), (4, [77, 1], [(0, [(7, 1)]), (0, [(10, 1)]), (0, [(15, 1)])]), (2, [], [(0, [(7, 1)]), (0, [(16, 1)])]), (0, [], [(-1, [(10, -1), (16, 1)])]), (4, [78, 1], [(0, [(8, 1)]), (0, [(10, 1)]), (0, [(17, 1)])]), (2, [], [(0, [(8, 1)]), (0, [(18, 1)])]), (0, [], [(-1, [(10, -1), (18, 1)])]), (0, [], [(0, [(10, 1)])]), (0, [], [(0, [(1, 1), (10, -150)])]), (0, [], [(149, [(1, -1), (10, 150)])]), (0, [], [(0, [(1, 1), (10, -150), (11, -1), (13, -1), (15, -1), (17, -1)])])], [(52, [], [(0, [(3, 1)]), (0, [(4, 1)]), (0, [(0, 1)]), (0, [(5, 1)]), (0, [(6, 1)]), (0, [(7, 1)]), (0, [(8, 1)]), (0, [(9, 1)])])]))
theorem q_m83_ok : ∀ (g : Int → Int → Int) (ln : Int → Int) (kf : Int → Nat) (ρ : List Int) (a i x : Int), sv_BOk ρ q_m83.2.1 → (∀ f ∈ q_m83.2.2.1, sv_FQk q_Ks q_Q g ln kf ρ f) → sv_nth ρ 0 = some a → sv_nth ρ 1 = some i → sv_nth ρ 2 = some x → 0 ≤ a → 0 ≤ i → i < ln a → kf a = q_m83.1 → ∀ f ∈ q_m83.2.2.2, sv_FQk q_Ks q_Q (sv_put g a i x) ln kf ρ f := by
  intro g ln kf ρ a i x hb hf n0 n1 n2 p0 p1 p2 p3
  obtain ⟨hl, hb⟩ := hb
  obtain ⟨xen, r0, rfl, l0⟩ := sv_lens hl
  obtain ⟨xi, r1, rfl, l1⟩ := sv_lens l0
  obtain ⟨xx, r2, rfl, l2⟩ := sv_lens l1
  obtain ⟨xso, r3, rfl, l3⟩ := sv_lens l2
  obtain ⟨xsf, r4, rfl, l4⟩ := sv_lens l3
  obtain ⟨xlv, r5, rfl, l5⟩ := sv_lens l4
  obtain ⟨xlo, r6, rfl, l6⟩ := sv_lens l5
  obtain ⟨xcu, r7, rfl, l7⟩ := sv_lens l6
  obtain ⟨xns, r8, rfl, l8⟩ := sv_lens l7
  obtain ⟨xn, r9, rfl, l9⟩ := sv_lens l8
  obtain ⟨xt, r10, rfl, l10⟩ := sv_lens l9
  obtain ⟨xy1, r11, rfl, l11⟩ := sv_lens l10
  obtain ⟨xM1, r12, rfl, l12⟩ := sv_lens l11
  obtain ⟨xy2, r13, rfl, l13⟩ := sv_lens l12
  obtain ⟨xM2, r14, rfl, l14⟩ := sv_lens l13
  obtain ⟨xy3, r15, rfl, l15⟩ := sv_lens l14
  obtain ⟨xM3, r16, rfl, l16⟩ := sv_lens l15
  obtain ⟨xy4, r17, rfl, l17⟩ := sv_lens l16
  obtain ⟨xM4, r18, rfl, l18⟩ := sv_lens l17
  obtain rfl := sv_len0 l18
  clear l0 l1 l2 l3 l4 l5 l6 l7 l8 l9 l10 l11 l12 l13 l14 l15 l16 l17 l18 hl
  have ben : 0 ≤ xen := (hb 0 _ _ rfl rfl).1
  have bso : 0 ≤ xso := (hb 3 _ _ rfl rfl).1
  have bsf : 0 ≤ xsf := (hb 4 _ _ rfl rfl).1
  have blv : 0 ≤ xlv := (hb 5 _ _ rfl rfl).1
  have blo : 0 ≤ xlo := (hb 6 _ _ rfl rfl).1
  have bcu : 0 ≤ xcu := (hb 7 _ _ rfl rfl).1
  have bns : 0 ≤ xns := (hb 8 _ _ rfl rfl).1
  clear hb
  obtain rfl : xen = a := by simpa [sv_nth] using n0
  obtain rfl : xi = i := by simpa [sv_nth] using n1
  obtain rfl : xx = x := by simpa [sv_nth] using n2
  clear n0 n1 n2
  have p3 : kf xen = 84 := p3
  have h0 := hf _ (List.mem_of_getElem? (i := 0) rfl)
  simp [sv_FQk, sv_FQ, sv_evs, sv_ev, sv_evT, sv_nth, sv_adq, sv_gs, q_Ks_36, q_Q_36] at h0
  have h1 := hf _ (List.mem_of_getElem? (i := 1) rfl)
  simp [sv_FQk, sv_FQ, sv_evs, sv_ev, sv_evT, sv_nth, sv_adq, sv_gs] at h1
  have h2 := hf _ (List.mem_of_getElem? (i := 2) rfl)
  simp [sv_FQk, sv_FQ, sv_evs, sv_ev, sv_evT, sv_nth, sv_adq, sv_gs] at h2
  have h3 := hf _ (List.mem_of_getElem? (i := 3) rfl)
  simp [sv_FQk, sv_FQ, sv_evs, sv_ev, sv_evT, sv_nth, sv_adq, sv_gs] at h3
  have h4 := hf _ (List.mem_of_getElem? (i := 4) rfl)
  simp [sv_FQk, sv_FQ, sv_evs, sv_ev, sv_evT, sv_nth, sv_adq, sv_gs] at h4
  have h5 := hf _ (List.mem_of_getElem? (i := 5) rfl)
  simp [sv_FQk, sv_FQ, sv_evs, sv_ev, sv_evT, sv_nth, sv_adq, sv_gs] at h5
  have h6 := hf _ (List.mem_of_getElem? (i := 6) rfl)
  simp [sv_FQk, sv_FQ, sv_evs, sv_ev, sv_evT, sv_nth, sv_adq, sv_gs] at h6
  have h7 := hf _ (List.mem_of_getElem? (i := 7) rfl)
  simp [sv_FQk, sv_FQ, sv_evs, sv_ev, sv_evT, sv_nth, sv_adq, sv_gs] at h7
  have h8 := hf _ (List.mem_of_getElem? (i := 8) rfl)
  simp [sv_FQk, sv_FQ, sv_evs, sv_ev, sv_evT, sv_nth, sv_adq, sv_gs] at h8
  have h9 := hf _ (List.mem_of_getElem? (i := 9) rfl)
  simp [sv_FQk, sv_FQ, sv_evs, sv_ev, sv_evT, sv_nth, sv_adq, sv_gs] at h9
  have h10 := hf _ (List.mem_of_getElem? (i := 10) rfl)
  simp [sv_FQk, sv_FQ, sv_evs, sv_ev, sv_evT, sv_nth, sv_adq, sv_gs] at h10
  have h11 := hf _ (List.mem_of_getElem? (i := 11) rfl)
  simp [sv_FQk, sv_FQ, sv_evs, sv_ev, sv_evT, sv_nth, sv_adq, sv_gs] at h11
  have h12 := hf _ (List.mem_of_getElem? (i := 12) rfl)
  simp [sv_FQk, sv_FQ, sv_evs, sv_ev, sv_evT, sv_nth, sv_adq, sv_gs] at h12
  have h13 := hf _ (List.mem_of_getElem? (i := 13) rfl)
  simp [sv_FQk, sv_FQ, sv_evs, sv_ev, sv_evT, sv_nth, sv_adq, sv_gs] at h13
  have h14 := hf _ (List.mem_of_getElem? (i := 14) rfl)
  simp [sv_FQk, sv_FQ, sv_evs, sv_ev, sv_evT, sv_nth, sv_adq, sv_gs] at h14
  have h15 := hf _ (List.mem_of_getElem? (i := 15) rfl)
  simp [sv_FQk, sv_FQ, sv_evs, sv_ev, sv_evT, sv_nth, sv_adq, sv_gs] at h15
  have h16 := hf _ (List.mem_of_getElem? (i := 16) rfl)
  simp [sv_FQk, sv_FQ, sv_evs, sv_ev, sv_evT, sv_nth, sv_adq, sv_gs] at h16
  clear hf
  obtain ⟨⟨⟨-, Kso⟩, ⟨-, Ksf⟩, ⟨-, Ken⟩, ⟨-, Klv⟩, ⟨-, Klo⟩, ⟨-, Kcu⟩, ⟨-, Kns⟩⟩, h0⟩ := h0
  rw [sv_Qsrc_iff] at h0
  replace h1 := h1 blv (by omega) (by have := h2 blv; omega)
  replace h4 := h4 blo (by omega) (by have := h5 blo; omega)
  replace h7 := h7 bcu (by omega) (by have := h8 bcu; omega)
  replace h10 := h10 bns (by omega) (by have := h11 bns; omega)
  have eso : sv_put g xen xi xx xso = g xso := sv_put_ne (sv_kf_ne Kso p3 (by decide))
  have esf : sv_put g xen xi xx xsf = g xsf := sv_put_ne (sv_kf_ne Ksf p3 (by decide))
  have elv : sv_put g xen xi xx xlv = g xlv := sv_put_ne (sv_kf_ne Klv p3 (by decide))
  have elo : sv_put g xen xi xx xlo = g xlo := sv_put_ne (sv_kf_ne Klo p3 (by decide))
  have ecu : sv_put g xen xi xx xcu = g xcu := sv_put_ne (sv_kf_ne Kcu p3 (by decide))
  have ens : sv_put g xen xi xx xns = g xns := sv_put_ne (sv_kf_ne Kns p3 (by decide))
  intro f hf
  have hf : f ∈ [(52, [], [(0, [(3, 1)]), (0, [(4, 1)]), (0, [(0, 1)]), (0, [(5, 1)]), (0, [(6, 1)]), (0, [(7, 1)]), (0, [(8, 1)]), (0, [(9, 1)])])] := hf
  simp only [List.mem_cons, List.not_mem_nil, or_false] at hf
  subst hf
  · simp [sv_FQk, sv_FQ, sv_evs, sv_ev, sv_evT, sv_nth, sv_adq, sv_gs, q_Ks_36, q_Q_36]
    refine ⟨⟨⟨bso, Kso⟩, ⟨bsf, Ksf⟩, ⟨ben, Ken⟩, ⟨blv, Klv⟩, ⟨blo, Klo⟩, ⟨bcu, Kcu⟩, ⟨bns, Kns⟩⟩, ?_⟩
    rw [sv_Qsrc_iff]
    simp only [sv_put_eq, eso, esf, elv, elo, ecu, ens]
    intro t k t1 t2 k1 k2 k3
    have q := h0 t k t1 t2 k1 k2 k3
    have n1 : ¬ 150 * t + k = xi := by
      intro e
      have et : t = xt := by omega
      rw [et] at k3
      omega
    rcases q with q | ⟨q1, q2, q3, q4, q5⟩
    · exact Or.inl q
    · right
      have n2 : ¬ 150 * t + g xso (150 * t + k) = xi := by
        intro e
        have et : t = xt := by omega
        rw [et] at k3
        omega
      rw [if_neg n1, if_neg n2]
      exact ⟨q1, q2, q3, q4, q5⟩
-- src_e1
def q_m84 : Nat × SvM := (84, ([(0, none), (-1180591620717411303424, none), (-1180591620717411303424, none), (0, none), (0, none), (0, none), (0, none), (0, none), (0, none), (-1180591620717411303424, none), (-1180591620717411303424, none), (-1180591620717411303424, none), (-1180591620717411303424, none), (-1180591620717411303424, none)], [(52, [], [(0, [(3, 1)]), (0, [(4, 1)]), (0, [(0, 1)]), (0, [(5, 1)]), (0, [(6, 1)]), (0, [(7, 1)]), (0, [(8, 1)]), (0, [(9, 1)])]), (4, [97, 1], [(0, [(3, 1)]), (0, [(1, 1)]), (0, [(10, 1)])]), (2, [], [(0, [(3, 1)]), (0, [(11, 1)])]), (0, [], [(0, [(1, 1)])]), (0, [], [(-1, [(1, -1), (11, 1)])]), (0, [], [(-1, [(10, -1)])]), (0, [], [(1, [(10, 1)])]), (4, [84, 1], [(0, [(0, 1)]), (0, [(1, 1)]), (0, [(12, 1)])]), (2, [], [(0, [(0, 1)]), (0, [(13, 1)])]), (0, [], [(-1, [(1, -1), (13, 1)])]), (0, [], [(0, [(2, 1), (12, -1)])])], [(52, [], [(0, [(3, 1)]), (0, [(4, 1)]), (0, [(0, 1)]), (0, [(5, 1)]), (0, [(6, 1)]), (0, [(7, 1)]), (0, [(8, 1)]), (0, [(9, 1)])])]))
theorem q_m84_ok : ∀ (g : Int → Int → Int) (ln : Int → Int) (kf : Int → Nat) (ρ : List Int) (a i x : Int), sv_BOk ρ q_m84.2.1 → (∀ f ∈ q_m84.2.2.1, sv_FQk q_Ks q_Q g ln kf ρ f) → sv_nth ρ 0 = some a → sv_nth ρ 1 = some i → sv_nth ρ 2 = some x → 0 ≤ a → 0 ≤ i → i < ln a → kf a = q_m84.1 → ∀ f ∈ q_m84.2.2.2, sv_FQk q_Ks q_Q (sv_put g a i x) ln kf ρ f := by
  intro g ln kf ρ a i x hb hf n0 n1 n2 p0 p1 p2 p3
  obtain ⟨hl, hb⟩ := hb
  obtain ⟨xen, r0, rfl, l0⟩ := sv_lens hl
  obtain ⟨xi, r1, rfl, l1⟩ := sv_lens l0
  obtain ⟨xx, r2, rfl, l2⟩ := sv_lens l1
  obtain ⟨xso, r3, rfl, l3⟩ := sv_lens l2
  obtain ⟨xsf, r4, rfl, l4⟩ := sv_lens l3
  obtain ⟨xlv, r5, rfl, l5⟩ := sv_lens l4
  obtain ⟨xlo, r6, rfl, l6⟩ := sv_lens l5
  obtain ⟨xcu, r7, rfl, l7⟩ := sv_lens l6
  obtain ⟨xns, r8, rfl, l8⟩ := sv_lens l7
  obtain ⟨xn, r9, rfl, l9⟩ := sv_lens l8
  obtain ⟨xy, r10, rfl, l10⟩ := sv_lens l9
  obtain ⟨xN, r11, rfl, l11⟩ := sv_lens l10
  obtain ⟨xe, r12, rfl, l12⟩ := sv_lens l11
  obtain ⟨xM, r13, rfl, l13⟩ := sv_lens l12
  obtain rfl := sv_len0 l13
  clear l0 l1 l2 l3 l4 l5 l6 l7 l8 l9 l10 l11 l12 l13 hl
  have ben : 0 ≤ xen := (hb 0 _ _ rfl rfl).1
  have bso : 0 ≤ xso := (hb 3 _ _ rfl rfl).1
  have bsf : 0 ≤ xsf := (hb 4 _ _ rfl rfl).1
  have blv : 0 ≤ xlv := (hb 5 _ _ rfl rfl).1
  have blo : 0 ≤ xlo := (hb 6 _ _ rfl rfl).1
  have bcu : 0 ≤ xcu := (hb 7 _ _ rfl rfl).1
  have bns : 0 ≤ xns := (hb 8 _ _ rfl rfl).1
  clear hb
  obtain rfl : xen = a := by simpa [sv_nth] using n0
  obtain rfl : xi = i := by simpa [sv_nth] using n1
  obtain rfl : xx = x := by simpa [sv_nth] using n2
  clear n0 n1 n2
  have p3 : kf xen = 84 := p3
  have h0 := hf _ (List.mem_of_getElem? (i := 0) rfl)
  simp [sv_FQk, sv_FQ, sv_evs, sv_ev, sv_evT, sv_nth, sv_adq, sv_gs, q_Ks_36, q_Q_36] at h0
  have h1 := hf _ (List.mem_of_getElem? (i := 1) rfl)
  simp [sv_FQk, sv_FQ, sv_evs, sv_ev, sv_evT, sv_nth, sv_adq, sv_gs] at h1
  have h2 := hf _ (List.mem_of_getElem? (i := 2) rfl)
  simp [sv_FQk, sv_FQ, sv_evs, sv_ev, sv_evT, sv_nth, sv_adq, sv_gs] at h2
  have h3 := hf _ (List.mem_of_getElem? (i := 3) rfl)
  simp [sv_FQk, sv_FQ, sv_evs, sv_ev, sv_evT, sv_nth, sv_adq, sv_gs] at h3
  have h4 := hf _ (List.mem_of_getElem? (i := 4) rfl)
  simp [sv_FQk, sv_FQ, sv_evs, sv_ev, sv_evT, sv_nth, sv_adq, sv_gs] at h4
  have h5 := hf _ (List.mem_of_getElem? (i := 5) rfl)
  simp [sv_FQk, sv_FQ, sv_evs, sv_ev, sv_evT, sv_nth, sv_adq, sv_gs] at h5
  have h6 := hf _ (List.mem_of_getElem? (i := 6) rfl)
  simp [sv_FQk, sv_FQ, sv_evs, sv_ev, sv_evT, sv_nth, sv_adq, sv_gs] at h6
  have h7 := hf _ (List.mem_of_getElem? (i := 7) rfl)
  simp [sv_FQk, sv_FQ, sv_evs, sv_ev, sv_evT, sv_nth, sv_adq, sv_gs] at h7
  have h8 := hf _ (List.mem_of_getElem? (i := 8) rfl)
  simp [sv_FQk, sv_FQ, sv_evs, sv_ev, sv_evT, sv_nth, sv_adq, sv_gs] at h8
  have h9 := hf _ (List.mem_of_getElem? (i := 9) rfl)
  simp [sv_FQk, sv_FQ, sv_evs, sv_ev, sv_evT, sv_nth, sv_adq, sv_gs] at h9
  have h10 := hf _ (List.mem_of_getElem? (i := 10) rfl)
  simp [sv_FQk, sv_FQ, sv_evs, sv_ev, sv_evT, sv_nth, sv_adq, sv_gs] at h10
  clear hf
  obtain ⟨⟨⟨-, Kso⟩, ⟨-, Ksf⟩, ⟨-, Ken⟩, ⟨-, Klv⟩, ⟨-, Klo⟩, ⟨-, Kcu⟩, ⟨-, Kns⟩⟩, h0⟩ := h0
  rw [sv_Qsrc_iff] at h0
  replace h1 := h1 bso (by omega) (by have := h2 bso; omega)
  replace h7 := h7 ben (by omega) (by have := h8 ben; omega)
  have eso : sv_put g xen xi xx xso = g xso := sv_put_ne (sv_kf_ne Kso p3 (by decide))
  have esf : sv_put g xen xi xx xsf = g xsf := sv_put_ne (sv_kf_ne Ksf p3 (by decide))
  have elv : sv_put g xen xi xx xlv = g xlv := sv_put_ne (sv_kf_ne Klv p3 (by decide))
  have elo : sv_put g xen xi xx xlo = g xlo := sv_put_ne (sv_kf_ne Klo p3 (by decide))
  have ecu : sv_put g xen xi xx xcu = g xcu := sv_put_ne (sv_kf_ne Kcu p3 (by decide))
  have ens : sv_put g xen xi xx xns = g xns := sv_put_ne (sv_kf_ne Kns p3 (by decide))
  intro f hf
  have hf : f ∈ [(52, [], [(0, [(3, 1)]), (0, [(4, 1)]), (0, [(0, 1)]), (0, [(5, 1)]), (0, [(6, 1)]), (0, [(7, 1)]), (0, [(8, 1)]), (0, [(9, 1)])])] := hf
  simp only [List.mem_cons, List.not_mem_nil, or_false] at hf
  subst hf
  · simp [sv_FQk, sv_FQ, sv_evs, sv_ev, sv_evT, sv_nth, sv_adq, sv_gs, q_Ks_36, q_Q_36]
    refine ⟨⟨⟨bso, Kso⟩, ⟨bsf, Ksf⟩, ⟨ben, Ken⟩, ⟨blv, Klv⟩, ⟨blo, Klo⟩, ⟨bcu, Kcu⟩, ⟨bns, Kns⟩⟩, ?_⟩
    rw [sv_Qsrc_iff]
    simp only [sv_put_eq, eso, esf, elv, elo, ecu, ens]
    intro t k t1 t2 k1 k2 k3
    have q := h0 t k t1 t2 k1 k2 k3
    rcases q with q | ⟨q1, q2, q3, q4, q5⟩
    · exact Or.inl q
    · right
      have n1 : ¬ 150 * t + k = xi := by
        intro e
        rw [e] at q1
        omega
      rw [if_neg n1]
      refine ⟨q1, q2, q3, q4, ?_⟩
      by_cases e : 150 * t + g xso (150 * t + k) = xi
      · rw [if_pos e]
        rw [e] at q5
        omega
      · rw [if_neg e]
        exact q5
-- src_nlv
def q_m85 : Nat × SvM := (75, ([(0, none), (-1180591620717411303424, none), (-1180591620717411303424, none), (0, none), (0, none), (0, none), (0, none), (0, none), (0, none), (-1180591620717411303424, none)], [(52, [], [(0, [(3, 1)]), (0, [(4, 1)]), (0, [(5, 1)]), (0, [(0, 1)]), (0, [(6, 1)]), (0, [(7, 1)]), (0, [(8, 1)]), (0, [(9, 1)])]), (0, [], [(0, [(1, 1), (9, -1)])])], [(52, [], [(0, [(3, 1)]), (0, [(4, 1)]), (0, [(5, 1)]), (0, [(0, 1)]), (0, [(6, 1)]), (0, [(7, 1)]), (0, [(8, 1)]), (0, [(9, 1)])])]))
theorem q_m85_ok : ∀ (g : Int → Int → Int) (ln : Int → Int) (kf : Int → Nat) (ρ : List Int) (a i x : Int), sv_BOk ρ q_m85.2.1 → (∀ f ∈ q_m85.2.2.1, sv_FQk q_Ks q_Q g ln kf ρ f) → sv_nth ρ 0 = some a → sv_nth ρ 1 = some i → sv_nth ρ 2 = some x → 0 ≤ a → 0 ≤ i → i < ln a → kf a = q_m85.1 → ∀ f ∈ q_m85.2.2.2, sv_FQk q_Ks q_Q (sv_put g a i x) ln kf ρ f := by
  intro g ln kf ρ a i x hb hf n0 n1 n2 p0 p1 p2 p3
  obtain ⟨hl, hb⟩ := hb
  obtain ⟨xlv, r0, rfl, l0⟩ := sv_lens hl
  obtain ⟨xi, r1, rfl, l1⟩ := sv_lens l0
  obtain ⟨xx, r2, rfl, l2⟩ := sv_lens l1
  obtain ⟨xso, r3, rfl, l3⟩ := sv_lens l2
  obtain ⟨xsf, r4, rfl, l4⟩ := sv_lens l3
  obtain ⟨xen, r5, rfl, l5⟩ := sv_lens l4
  obtain ⟨xlo, r6, rfl, l6⟩ := sv_lens l5
  obtain ⟨xcu, r7, rfl, l7⟩ := sv_lens l6
  obtain ⟨xns, r8, rfl, l8⟩ := sv_lens l7
  obtain ⟨xn, r9, rfl, l9⟩ := sv_lens l8
  obtain rfl := sv_len0 l9
  clear l0 l1 l2 l3 l4 l5 l6 l7 l8 l9 hl
  have blv : 0 ≤ xlv := (hb 0 _ _ rfl rfl).1
  have bso : 0 ≤ xso := (hb 3 _ _ rfl rfl).1
  have bsf : 0 ≤ xsf := (hb 4 _ _ rfl rfl).1
  have ben : 0 ≤ xen := (hb 5 _ _ rfl rfl).1
  have blo : 0 ≤ xlo := (hb 6 _ _ rfl rfl).1
  have bcu : 0 ≤ xcu := (hb 7 _ _ rfl rfl).1
  have bns : 0 ≤ xns := (hb 8 _ _ rfl rfl).1
  clear hb
  obtain rfl : xlv = a := by simpa [sv_nth] using n0
  obtain rfl : xi = i := by simpa [sv_nth] using n1
  obtain rfl : xx = x := by simpa [sv_nth] using n2
  clear n0 n1 n2
  have p3 : kf xlv = 75 := p3
  have h0 := hf _ (List.mem_of_getElem? (i := 0) rfl)
  simp [sv_FQk, sv_FQ, sv_evs, sv_ev, sv_evT, sv_nth, sv_adq, sv_gs, q_Ks_36, q_Q_36] at h0
  have h1 := hf _ (List.mem_of_getElem? (i := 1) rfl)
  simp [sv_FQk, sv_FQ, sv_evs, sv_ev, sv_evT, sv_nth, sv_adq, sv_gs] at h1
  clear hf
  obtain ⟨⟨⟨-, Kso⟩, ⟨-, Ksf⟩, ⟨-, Ken⟩, ⟨-, Klv⟩, ⟨-, Klo⟩, ⟨-, Kcu⟩, ⟨-, Kns⟩⟩, h0⟩ := h0
  rw [sv_Qsrc_iff] at h0
  have eso : sv_put g xlv xi xx xso = g xso := sv_put_ne (sv_kf_ne Kso p3 (by decide))
  have esf : sv_put g xlv xi xx xsf = g xsf := sv_put_ne (sv_kf_ne Ksf p3 (by decide))
  have een : sv_put g xlv xi xx xen = g xen := sv_put_ne (sv_kf_ne Ken p3 (by decide))
  have elo : sv_put g xlv xi xx xlo = g xlo := sv_put_ne (sv_kf_ne Klo p3 (by decide))
  have ecu : sv_put g xlv xi xx xcu = g xcu := sv_put_ne (sv_kf_ne Kcu p3 (by decide))
  have ens : sv_put g xlv xi xx xns = g xns := sv_put_ne (sv_kf_ne Kns p3 (by decide))
  intro f hf
  have hf : f ∈ [(52, [], [(0, [(3, 1)]), (0, [(4, 1)]), (0, [(5, 1)]), (0, [(0, 1)]), (0, [(6, 1)]), (0, [(7, 1)]), (0, [(8, 1)]), (0, [(9, 1)])])] := hf
  simp only [List.mem_cons, List.not_mem_nil, or_false] at hf
  subst hf
  · simp [sv_FQk, sv_FQ, sv_evs, sv_ev, sv_evT, sv_nth, sv_adq, sv_gs, q_Ks_36, q_Q_36]
    refine ⟨⟨⟨bso, Kso⟩, ⟨bsf, Ksf⟩, ⟨ben, Ken⟩, ⟨blv, Klv⟩, ⟨blo, Klo⟩, ⟨bcu, Kcu⟩, ⟨bns, Kns⟩⟩, ?_⟩
    rw [sv_Qsrc_iff]
    simp only [sv_put_eq, eso, esf, een, elo, ecu, ens]
    intro t k t1 t2 k1 k2 k3
    rw [if_neg (by omega)] at k3
    exact h0 t k t1 t2 k1 k2 k3
-- src_alv
def q_m86 : Nat × SvM := (75, ([(0, none), (-1180591620717411303424, none), (-1180591620717411303424, none), (0, none), (0, none), (0, none), (0, none), (0, none), (0, none), (-1180591620717411303424, none), (-1180591620717411303424, none), (-1180591620717411303424, none), (-1180591620717411303424, none), (-1180591620717411303424, none), (-1180591620717411303424, none), (-1180591620717411303424, none), (-1180591620717411303424, none), (-1180591620717411303424, none), (-1180591620717411303424, none), (-1180591620717411303424, none)], [(52, [], [(0, [(3, 1)]), (0, [(4, 1)]), (0, [(5, 1)]), (0, [(0, 1)]), (0, [(6, 1)]), (0, [(7, 1)]), (0, [(8, 1)]), (0, [(9, 1)])]), (4, [75, 1], [(0, [(0, 1)]), (0, [(1, 1)]), (0, [(12, 1)])]), (2, [], [(0, [(0, 1)]), (0, [(13, 1)])]), (0, [], [(-1, [(1, -1), (13, 1)])]), (4, [76, 1], [(0, [(6, 1)]), (0, [(1, 1)]), (0, [(14, 1)])]), (2, [], [(0, [(6, 1)]), (0, [(15, 1)])]), (0, [], [(-1, [(1, -1), (15, 1)])]), (4, [77, 1], [(0, [(7, 1)]), (0, [(1, 1)]), (0, [(16, 1)])]), (2, [], [(0, [(7, 1)]), (0, [(17, 1)])]), (0, [], [(-1, [(1, -1), (17, 1)])]), (4, [78, 1], [(0, [(8, 1)]), (0, [(1, 1)]), (0, [(18, 1)])]), (2, [], [(0, [(8, 1)]), (0, [(19, 1)])]), (0, [], [(-1, [(1, -1), (19, 1)])]), (0, [], [(1, [(2, -1), (12, 1)])]), (0, [], [(-1, [(2, 1), (12, -1)])]), (0, [], [(0, [(1, 1)])]), (4, [97, 1], [(0, [(3, 1)]), (0, [(1, 150), (12, 1), (14, 1), (16, 1), (18, 1)]), (0, [(10, 1)])]), (2, [], [(0, [(3, 1)]), (0, [(11, 1)])]), (0, [], [(-1, [(1, -150), (11, 1), (12, -1), (14, -1), (16, -1), (18, -1)])]), (0, [], [(0, [(12, 1), (14, 1), (16, 1), (18, 1)])]), (0, [], [(149, [(12, -1), (14, -1), (16, -1), (18, -1)])]), (0, [], [(-1, [(10, -1)])]), (0, [], [(1, [(10, 1)])])], [(52, [], [(0, [(3, 1)]), (0, [(4, 1)]), (0, [(5, 1)]), (0, [(0, 1)]), (0, [(6, 1)]), (0, [(7, 1)]), (0, [(8, 1)]), (0, [(9, 1)])])]))
theorem q_m86_ok : ∀ (g : Int → Int → Int) (ln : Int → Int) (kf : Int → Nat) (ρ : List Int) (a i x : Int), sv_BOk ρ q_m86.2.1 → (∀ f ∈ q_m86.2.2.1, sv_FQk q_Ks q_Q g ln kf ρ f) → sv_nth ρ 0 = some a → sv_nth ρ 1 = some i → sv_nth ρ 2 = some x → 0 ≤ a → 0 ≤ i → i < ln a → kf a = q_m86.1 → ∀ f ∈ q_m86.2.2.2, sv_FQk q_Ks q_Q (sv_put g a i x) ln kf ρ f := by
  intro g ln kf ρ a i x hb hf n0 n1 n2 p0 p1 p2 p3
  obtain ⟨hl, hb⟩ := hb
  obtain ⟨xlv, r0, rfl, l0⟩ := sv_lens hl
  obtain ⟨xi, r1, rfl, l1⟩ := sv_lens l0
  obtain ⟨xx, r2, rfl, l2⟩ := sv_lens l1
  obtain ⟨xso, r3, rfl, l3⟩ := sv_lens l2
  obtain ⟨xsf, r4, rfl, l4⟩ := sv_lens l3
  obtain ⟨xen, r5, rfl, l5⟩ := sv_lens l4
  obtain ⟨xlo, r6, rfl, l6⟩ := sv_lens l5
  obtain ⟨xcu, r7, rfl, l7⟩ := sv_lens l6
  obtain ⟨xns, r8, rfl, l8⟩ := sv_lens l7
  obtain ⟨xn, r9, rfl, l9⟩ := sv_lens l8
  obtain ⟨xg, r10, rfl, l10⟩ := sv_lens l9
  obtain ⟨xN, r11, rfl, l11⟩ := sv_lens l10
  obtain ⟨xy1, r12, rfl, l12⟩ := sv_lens l11
  obtain ⟨xM1, r13, rfl, l13⟩ := sv_lens l12
  obtain ⟨xy2, r14, rfl, l14⟩ := sv_lens l13
  obtain ⟨xM2, r15, rfl, l15⟩ := sv_lens l14
  obtain ⟨xy3, r16, rfl, l16⟩ := sv_lens l15
  obtain ⟨xM3, r17, rfl, l17⟩ := sv_lens l16
  obtain ⟨xy4, r18, rfl, l18⟩ := sv_lens l17
  obtain ⟨xM4, r19, rfl, l19⟩ := sv_lens l18
  obtain rfl := sv_len0 l19
  clear l0 l1 l2 l3 l4 l5 l6 l7 l8 l9 l10 l11 l12 l13 l14 l15 l16 l17 l18 l19 hl
  have blv : 0 ≤ xlv := (hb 0 _ _ rfl rfl).1
  have bso : 0 ≤ xso := (hb 3 _ _ rfl rfl).1
  have bsf : 0 ≤ xsf := (hb 4 _ _ rfl rfl).1
  have ben : 0 ≤ xen := (hb 5 _ _ rfl rfl).1
  have blo : 0 ≤ xlo := (hb 6 _ _ rfl rfl).1
  have bcu : 0 ≤ xcu := (hb 7 _ _ rfl rfl).1
  have bns : 0 ≤ xns := (hb 8 _ _ rfl rfl).1
  clear hb
  obtain rfl : xlv = a := by simpa [sv_nth] using n0
  obtain rfl : xi = i := by simpa [sv_nth] using n1
  obtain rfl : xx = x := by simpa [sv_nth] using n2
  clear n0 n1 n2
  have p3 : kf xlv = 75 := p3
  have h0 := hf _ (List.mem_of_getElem? (i := 0) rfl)
  simp [sv_FQk, sv_FQ, sv_evs, sv_ev, sv_evT, sv_nth, sv_adq, sv_gs, q_Ks_36, q_Q_36] at h0
  have h1 := hf _ (List.mem_of_getElem? (i := 1) rfl)
  simp [sv_FQk, sv_FQ, sv_evs, sv_ev, sv_evT, sv_nth, sv_adq, sv_gs] at h1
  have h2 := hf _ (List.mem_of_getElem? (i := 2) rfl)
  simp [sv_FQk, sv_FQ, sv_evs, sv_ev, sv_evT, sv_nth, sv_adq, sv_gs] at h2
  have h3 := hf _ (List.mem_of_getElem? (i := 3) rfl)
  simp [sv_FQk, sv_FQ, sv_evs, sv_ev, sv_evT, sv_nth, sv_adq, sv_gs] at h3
  have h4 := hf _ (List.mem_of_getElem? (i := 4) rfl)
  simp [sv_FQk, sv_FQ, sv_evs, sv_ev, sv_evT, sv_nth, sv_adq, sv_gs] at h4
  have h5 := hf _ (List.mem_of_getElem? (i := 5) rfl)
  simp [sv_FQk, sv_FQ, sv_evs, sv_ev, sv_evT, sv_nth, sv_adq, sv_gs] at h5
  have h6 := hf _ (List.mem_of_getElem? (i := 6) rfl)
  simp [sv_FQk, sv_FQ, sv_evs, sv_ev, sv_evT, sv_nth, sv_adq, sv_gs] at h6
  have h7 := hf _ (List.mem_of_getElem? (i := 7) rfl)
  simp [sv_FQk, sv_FQ, sv_evs, sv_ev, sv_evT, sv_nth, sv_adq, sv_gs] at h7
  have h8 := hf _ (List.mem_of_getElem? (i := 8) rfl)
  simp [sv_FQk, sv_FQ, sv_evs, sv_ev, sv_evT, sv_nth, sv_adq, sv_gs] at h8
  have h9 := hf _ (List.mem_of_getElem? (i := 9) rfl)
  simp [sv_FQk, sv_FQ, sv_evs, sv_ev, sv_evT, sv_nth, sv_adq, sv_gs] at h9
  have h10 := hf _ (List.mem_of_getElem? (i := 10) rfl)
  simp [sv_FQk, sv_FQ, sv_evs, sv_ev, sv_evT, sv_nth, sv_adq, sv_gs] at h10
  have h11 := hf _ (List.mem_of_getElem? (i := 11) rfl)
  simp [sv_FQk, sv_FQ, sv_evs, sv_ev, sv_evT, sv_nth, sv_adq, sv_gs] at h11
  have h12 := hf _ (List.mem_of_getElem? (i := 12) rfl)
  simp [sv_FQk, sv_FQ, sv_evs, sv_ev, sv_evT, sv_nth, sv_adq, sv_gs] at h12
  have h13 := hf _ (List.mem_of_getElem? (i := 13) rfl)
  simp [sv_FQk, sv_FQ, sv_evs, sv_ev, sv_evT, sv_nth, sv_adq, sv_gs] at h13
  have h14 := hf _ (List.mem_of_getElem? (i := 14) rfl)
  simp [sv_FQk, sv_FQ, sv_evs, sv_ev, sv_evT, sv_nth, sv_adq, sv_gs] at h14
  have h15 := hf _ (List.mem_of_getElem? (i := 15) rfl)
  simp [sv_FQk, sv_FQ, sv_evs, sv_ev, sv_evT, sv_nth, sv_adq, sv_gs] at h15
  have h16 := hf _ (List.mem_of_getElem? (i := 16) rfl)
  simp [sv_FQk, sv_FQ, sv_evs, sv_ev, sv_evT, sv_nth, sv_adq, sv_gs] at h16
  have h17 := hf _ (List.mem_of_getElem? (i := 17) rfl)
  simp [sv_FQk, sv_FQ, sv_evs, sv_ev, sv_evT, sv_nth, sv_adq, sv_gs] at h17
  have h18 := hf _ (List.mem_of_getElem? (i := 18) rfl)
  simp [sv_FQk, sv_FQ, sv_evs, sv_ev, sv_evT, sv_nth, sv_adq, sv_gs] at h18
  have h19 := hf _ (List.mem_of_getElem? (i := 19) rfl)
  simp [sv_FQk, sv_FQ, sv_evs, sv_ev, sv_evT, sv_nth, sv_adq, sv_gs] at h19
  have h20 := hf _ (List.mem_of_getElem? (i := 20) rfl)
  simp [sv_FQk, sv_FQ, sv_evs, sv_ev, sv_evT, sv_nth, sv_adq, sv_gs] at h20
  have h21 := hf _ (List.mem_of_getElem? (i := 21) rfl)
  simp [sv_FQk, sv_FQ, sv_evs, sv_ev, sv_evT, sv_nth, sv_adq, sv_gs] at h21
  have h22 := hf _ (List.mem_of_getElem? (i := 22) rfl)
  simp [sv_FQk, sv_FQ, sv_evs, sv_ev, sv_evT, sv_nth, sv_adq, sv_gs] at h22
  clear hf
  obtain ⟨⟨⟨-, Kso⟩, ⟨-, Ksf⟩, ⟨-, Ken⟩, ⟨-, Klv⟩, ⟨-, Klo⟩, ⟨-, Kcu⟩, ⟨-, Kns⟩⟩, h0⟩ := h0
  rw [sv_Qsrc_iff] at h0
  replace h1 := h1 blv (by omega) (by have := h2 blv; omega)
  replace h4 := h4 blo (by omega) (by have := h5 blo; omega)
  replace h7 := h7 bcu (by omega) (by have := h8 bcu; omega)
  replace h10 := h10 bns (by omega) (by have := h11 bns; omega)
  replace h16 := h16 bso (by omega) (by have := h17 bso; omega)
  have eso : sv_put g xlv xi xx xso = g xso := sv_put_ne (sv_kf_ne Kso p3 (by decide))
  have esf : sv_put g xlv xi xx xsf = g xsf := sv_put_ne (sv_kf_ne Ksf p3 (by decide))
  have een : sv_put g xlv xi xx xen = g xen := sv_put_ne (sv_kf_ne Ken p3 (by decide))
  have elo : sv_put g xlv xi xx xlo = g xlo := sv_put_ne (sv_kf_ne Klo p3 (by decide))
  have ecu : sv_put g xlv xi xx xcu = g xcu := sv_put_ne (sv_kf_ne Kcu p3 (by decide))
  have ens : sv_put g xlv xi xx xns = g xns := sv_put_ne (sv_kf_ne Kns p3 (by decide))
  intro f hf
  have hf : f ∈ [(52, [], [(0, [(3, 1)]), (0, [(4, 1)]), (0, [(5, 1)]), (0, [(0, 1)]), (0, [(6, 1)]), (0, [(7, 1)]), (0, [(8, 1)]), (0, [(9, 1)])])] := hf
  simp only [List.mem_cons, List.not_mem_nil, or_false] at hf
  subst hf
  · simp [sv_FQk, sv_FQ, sv_evs, sv_ev, sv_evT, sv_nth, sv_adq, sv_gs, q_Ks_36, q_Q_36]
    refine ⟨⟨⟨bso, Kso⟩, ⟨bsf, Ksf⟩, ⟨ben, Ken⟩, ⟨blv, Klv⟩, ⟨blo, Klo⟩, ⟨bcu, Kcu⟩, ⟨bns, Kns⟩⟩, ?_⟩
    rw [sv_Qsrc_iff]
    simp only [sv_put_eq, eso, esf, een, elo, ecu, ens]
    intro t k t1 t2 k1 k2 k3
    by_cases e : t = xi
    · rw [if_pos e, e] at k3
      by_cases e2 : k = xy1 + xy2 + xy3 + xy4
      · left
        have u : g xso (150 * t + k) = xg := sv_fat (by omega) h16
        omega
      · exact h0 t k t1 t2 k1 k2 (by rw [e]; omega)
    · rw [if_neg e] at k3
      exact h0 t k t1 t2 k1 k2 k3
-- src_nlo
def q_m87 : Nat × SvM := (76, ([(0, none), (-1180591620717411303424, none), (-1180591620717411303424, none), (0, none), (0, none), (0, none), (0, none), (0, none), (0, none), (-1180591620717411303424, none)], [(52, [], [(0, [(3, 1)]), (0, [(4, 1)]), (0, [(5, 1)]), (0, [(6, 1)]), (0, [(0, 1)]), (0, [(7, 1)]), (0, [(8, 1)]), (0, [(9, 1)])]), (0, [], [(0, [(1, 1), (9, -1)])])], [(52, [], [(0, [(3, 1)]), (0, [(4, 1)]), (0, [(5, 1)]), (0, [(6, 1)]), (0, [(0, 1)]), (0, [(7, 1)]), (0, [(8, 1)]), (0, [(9, 1)])])]))
theorem q_m87_ok : ∀ (g : Int → Int → Int) (ln : Int → Int) (kf : Int → Nat) (ρ : List Int) (a i x : Int), sv_BOk ρ q_m87.2.1 → (∀ f ∈ q_m87.2.2.1, sv_FQk q_Ks q_Q g ln kf ρ f) → sv_nth ρ 0 = some a → sv_nth ρ 1 = some i → sv_nth ρ 2 = some x → 0 ≤ a → 0 ≤ i → i < ln a → kf a = q_m87.1 → ∀ f ∈ q_m87.2.2.2, sv_FQk q_Ks q_Q (sv_put g a i x) ln kf ρ f := by
  intro g ln kf ρ a i x hb hf n0 n1 n2 p0 p1 p2 p3
  obtain ⟨hl, hb⟩ := hb
  obtain ⟨xlo, r0, rfl, l0⟩ := sv_lens hl
  obtain ⟨xi, r1, rfl, l1⟩ := sv_lens l0
  obtain ⟨xx, r2, rfl, l2⟩ := sv_lens l1
  obtain ⟨xso, r3, rfl, l3⟩ := sv_lens l2
  obtain ⟨xsf, r4, rfl, l4⟩ := sv_lens l3
  obtain ⟨xen, r5, rfl, l5⟩ := sv_lens l4
  obtain ⟨xlv, r6, rfl, l6⟩ := sv_lens l5
  obtain ⟨xcu, r7, rfl, l7⟩ := sv_lens l6
  obtain ⟨xns, r8, rfl, l8⟩ := sv_lens l7
  obtain ⟨xn, r9, rfl, l9⟩ := sv_lens l8
  obtain rfl := sv_len0 l9
  clear l0 l1 l2 l3 l4 l5 l6 l7 l8 l9 hl
  have blo : 0 ≤ xlo := (hb 0 _ _ rfl rfl).1
  have bso : 0 ≤ xso := (hb 3 _ _ rfl rfl).1
  have bsf : 0 ≤ xsf := (hb 4 _ _ rfl rfl).1
  have ben : 0 ≤ xen := (hb 5 _ _ rfl rfl).1
  have blv : 0 ≤ xlv := (hb 6 _ _ rfl rfl).1
  have bcu : 0 ≤ xcu := (hb 7 _ _ rfl rfl).1
  have bns : 0 ≤ xns := (hb 8 _ _ rfl rfl).1
  clear hb
  obtain rfl : xlo = a := by simpa [sv_nth] using n0
  obtain rfl : xi = i := by simpa [sv_nth] using n1
  obtain rfl : xx = x := by simpa [sv_nth] using n2
  clear n0 n1 n2
  have p3 : kf xlo = 76 := p3
  have h0 := hf _ (List.mem_of_getElem? (i := 0) rfl)
  simp [sv_FQk, sv_FQ, sv_evs, sv_ev, sv_evT, sv_nth, sv_adq, sv_gs, q_Ks_36, q_Q_36] at h0
  have h1 := hf _ (List.mem_of_getElem? (i := 1) rfl)
  simp [sv_FQk, sv_FQ, sv_evs, sv_ev, sv_evT, sv_nth, sv_adq, sv_gs] at h1
  clear hf
  obtain ⟨⟨⟨-, Kso⟩, ⟨-, Ksf⟩, ⟨-, Ken⟩, ⟨-, Klv⟩, ⟨-, Klo⟩, ⟨-, Kcu⟩, ⟨-, Kns⟩⟩, h0⟩ := h0
  rw [sv_Qsrc_iff] at h0
  have eso : sv_put g xlo xi xx xso = g xso := sv_put_ne (sv_kf_ne Kso p3 (by decide))
  have esf : sv_put g xlo xi xx xsf = g xsf := sv_put_ne (sv_kf_ne Ksf p3 (by decide))
  have een : sv_put g xlo xi xx xen = g xen := sv_put_ne (sv_kf_ne Ken p3 (by decide))
  have elv : sv_put g xlo xi xx xlv = g xlv := sv_put_ne (sv_kf_ne Klv p3 (by decide))
  have ecu : sv_put g xlo xi xx xcu = g xcu := sv_put_ne (sv_kf_ne Kcu p3 (by decide))
  have ens : sv_put g xlo xi xx xns = g xns := sv_put_ne (sv_kf_ne Kns p3 (by decide))
  intro f hf
  have hf : f ∈ [(52, [], [(0, [(3, 1)]), (0, [(4, 1)]), (0, [(5, 1)]), (0, [(6, 1)]), (0, [(0, 1)]), (0, [(7, 1)]), (0, [(8, 1)]), (0, [(9, 1)])])] := hf
  simp only [List.mem_cons, List.not_mem_nil, or_false] at hf
  subst hf
  · simp [sv_FQk, sv_FQ, sv_evs, sv_ev, sv_evT, sv_nth, sv_adq, sv_gs, q_Ks_36, q_Q_36]
    refine ⟨⟨⟨bso, Kso⟩, ⟨bsf, Ksf⟩, ⟨ben, Ken⟩, ⟨blv, Klv⟩, ⟨blo, Klo⟩, ⟨bcu, Kcu⟩, ⟨bns, Kns⟩⟩, ?_⟩
    rw [sv_Qsrc_iff]
    simp only [sv_put_eq, eso, esf, een, elv, ecu, ens]
    intro t k t1 t2 k1 k2 k3
    rw [if_neg (by omega)] at k3
    exact h0 t k t1 t2 k1 k2 k3
-- src_alo
def q_m88 : Nat × SvM := (76, ([(0, none), (-1180591620717411303424, none), (-1180591620717411303424, none), (0, none), (0, none), (0, none), (0, none), (0, none), (0, none), (-1180591620717411303424, none), (-1180591620717411303424, none), (-1180591620717411303424, none), (-1180591620717411303424, none), (-1180591620717411303424, none), (-1180591620717411303424, none), (-1180591620717411303424, none), (-1180591620717411303424, none), (-1180591620717411303424, none), (-1180591620717411303424, none), (-1180591620717411303424, none)], [(52, [], [(0, [(3, 1)]), (0, [(4, 1)]), (0, [(5, 1)]), (0, [(6, 1)]), (0, [(0, 1)]), (0, [(7, 1)]), (0, [(8, 1)]), (0, [(9, 1)])]), (4, [75, 1], [(0, [(6, 1)]), (0, [(1, 1)]), (0, [(12, 1)])]), (2, [], [(0, [(6, 1)]), (0, [(13, 1)])]), (0, [], [(-1, [(1, -1), (13, 1)])]), (4, [76, 1], [(0, [(0, 1)]), (0, [(1, 1)]), (0, [(14, 1)])]), (2, [], [(0, [(0, 1)]), (0, [(15, 1)])]), (0, [], [(-1, [(1, -1), (15, 1)])]), (4, [77, 1], [(0, [(7, 1)]), (0, [(1, 1)]), (0, [(16, 1)])]), (2, [], [(0, [(7, 1)]), (0, [(17, 1)])]), (0, [], [(-1, [(1, -1), (17, 1)])]), (4, [78, 1], [(0, [(8, 1)]), (0, [(1, 1)]), (0, [(18, 1)])]), (2, [], [(0, [(8, 1)]), (0, [(19, 1)])]), (0, [], [(-1, [(1, -1), (19, 1)])]), (0, [], [(1, [(2, -1), (14, 1)])]), (0, [], [(-1, [(2, 1), (14, -1)])]), (0, [], [(0, [(1, 1)])]), (4, [97, 1], [(0, [(3, 1)]), (0, [(1, 150), (12, 1), (14, 1), (16, 1), (18, 1)]), (0, [(10, 1)])]), (2, [], [(0, [(3, 1)]), (0, [(11, 1)])]), (0, [], [(-1, [(1, -150), (11, 1), (12, -1), (14, -1), (16, -1), (18, -1)])]), (0, [], [(0, [(12, 1), (14, 1), (16, 1), (18, 1)])]), (0, [], [(149, [(12, -1), (14, -1), (16, -1), (18, -1)])]), (0, [], [(-1, [(10, -1)])]), (0, [], [(1, [(10, 1)])])], [(52, [], [(0, [(3, 1)]), (0, [(4, 1)]), (0, [(5, 1)]), (0, [(6, 1)]), (0, [(0, 1)]), (0, [(7, 1)]), (0, [(8, 1)]), (0, [(9, 1)])])]))
theorem q_m88_ok : ∀ (g : Int → Int → Int) (ln : Int → Int) (kf : Int → Nat) (ρ : List Int) (a i x : Int), sv_BOk ρ q_m88.2.1 → (∀ f ∈ q_m88.2.2.1, sv_FQk q_Ks q_Q g ln kf ρ f) → sv_nth ρ 0 = some a → sv_nth ρ 1 = some i → sv_nth ρ 2 = some x → 0 ≤ a → 0 ≤ i → i < ln a → kf a = q_m88.1 → ∀ f ∈ q_m88.2.2.2, sv_FQk q_Ks q_Q (sv_put g a i x) ln kf ρ f := by
  intro g ln kf ρ a i x hb hf n0 n1 n2 p0 p1 p2 p3
  obtain ⟨hl, hb⟩ := hb
  obtain ⟨xlo, r0, rfl, l0⟩ := sv_lens hl
  obtain ⟨xi, r1, rfl, l1⟩ := sv_lens l0
  obtain ⟨xx, r2, rfl, l2⟩ := sv_lens l1
  obtain ⟨xso, r3, rfl, l3⟩ := sv_lens l2
  obtain ⟨xsf, r4, rfl, l4⟩ := sv_lens l3
  obtain ⟨xen, r5, rfl, l5⟩ := sv_lens l4
  obtain ⟨xlv, r6, rfl, l6⟩ := sv_lens l5
  obtain ⟨xcu, r7, rfl, l7⟩ := sv_lens l6
  obtain ⟨xns, r8, rfl, l8⟩ := sv_lens l7
  obtain ⟨xn, r9, rfl, l9⟩ := sv_lens l8
  obtain ⟨xg, r10, rfl, l10⟩ := sv_lens l9
  obtain ⟨xN, r11, rfl, l11⟩ := sv_lens l10
  obtain ⟨xy1, r12, rfl, l12⟩ := sv_lens l11
  obtain ⟨xM1, r13, rfl, l13⟩ := sv_lens l12
  obtain ⟨xy2, r14, rfl, l14⟩ := sv_lens l13
  obtain ⟨xM2, r15, rfl, l15⟩ := sv_lens l14
  obtain ⟨xy3, r16, rfl, l16⟩ := sv_lens l15
  obtain ⟨xM3, r17, rfl, l17⟩ := sv_lens l16
  obtain ⟨xy4, r18, rfl, l18⟩ := sv_lens l17
  obtain ⟨xM4, r19, rfl, l19⟩ := sv_lens l18
  obtain rfl := sv_len0 l19
  clear l0 l1 l2 l3 l4 l5 l6 l7 l8 l9 l10 l11 l12 l13 l14 l15 l16 l17 l18 l19 hl
  have blo : 0 ≤ xlo := (hb 0 _ _ rfl rfl).1
  have bso : 0 ≤ xso := (hb 3 _ _ rfl rfl).1
  have bsf : 0 ≤ xsf := (hb 4 _ _ rfl rfl).1
  have ben : 0 ≤ xen := (hb 5 _ _ rfl rfl).1
  have blv : 0 ≤ xlv := (hb 6 _ _ rfl rfl).1
  have bcu : 0 ≤ xcu := (hb 7 _ _ rfl rfl).1
  have bns : 0 ≤ xns := (hb 8 _ _ rfl rfl).1
  clear hb
  obtain rfl : xlo = a := by simpa [sv_nth] using n0
  obtain rfl : xi = i := by simpa [sv_nth] using n1
  obtain rfl : xx = x := by simpa [sv_nth] using n2
  clear n0 n1 n2
  have p3 : kf xlo = 76 := p3
  have h0 := hf _ (List.mem_of_getElem? (i := 0) rfl)
  simp [sv_FQk, sv_FQ, sv_evs, sv_ev, sv_evT, sv_nth, sv_adq, sv_gs, q_Ks_36, q_Q_36] at h0
  have h1 := hf _ (List.mem_of_getElem? (i := 1) rfl)
  simp [sv_FQk, sv_FQ, sv_evs, sv_ev, sv_evT, sv_nth, sv_adq, sv_gs] at h1
  have h2 := hf _ (List.mem_of_getElem? (i := 2) rfl)
  simp [sv_FQk, sv_FQ, sv_evs, sv_ev, sv_evT, sv_nth, sv_adq, sv_gs] at h2
  have h3 := hf _ (List.mem_of_getElem? (i := 3) rfl)
  simp [sv_FQk, sv_FQ, sv_evs, sv_ev, sv_evT, sv_nth, sv_adq, sv_gs] at h3
  have h4 := hf _ (List.mem_of_getElem? (i := 4) rfl)
  simp [sv_FQk, sv_FQ, sv_evs, sv_ev, sv_evT, sv_nth, sv_adq, sv_gs] at h4
  have h5 := hf _ (List.mem_of_getElem? (i := 5) rfl)
  simp [sv_FQk, sv_FQ, sv_evs, sv_ev, sv_evT, sv_nth, sv_adq, sv_gs] at h5
  have h6 := hf _ (List.mem_of_getElem? (i := 6) rfl)
  simp [sv_FQk, sv_FQ, sv_evs, sv_ev, sv_evT, sv_nth, sv_adq, sv_gs] at h6
  have h7 := hf _ (List.mem_of_getElem? (i := 7) rfl)
  simp [sv_FQk, sv_FQ, sv_evs, sv_ev, sv_evT, sv_nth, sv_adq, sv_gs] at h7
  have h8 := hf _ (List.mem_of_getElem? (i := 8) rfl)
  simp [sv_FQk, sv_FQ, sv_evs, sv_ev, sv_evT, sv_nth, sv_adq, sv_gs] at h8
  have h9 := hf _ (List.mem_of_getElem? (i := 9) rfl)
  simp [sv_FQk, sv_FQ, sv_evs, sv_ev, sv_evT, sv_nth, sv_adq, sv_gs] at h9
  have h10 := hf _ (List.mem_of_getElem? (i := 10) rfl)
  simp [sv_FQk, sv_FQ, sv_evs, sv_ev, sv_evT, sv_nth, sv_adq, sv_gs] at h10
  have h11 := hf _ (List.mem_of_getElem? (i := 11) rfl)
  simp [sv_FQk, sv_FQ, sv_evs, sv_ev, sv_evT, sv_nth, sv_adq, sv_gs] at h11
  have h12 := hf _ (List.mem_of_getElem? (i := 12) rfl)
  simp [sv_FQk, sv_FQ, sv_evs, sv_ev, sv_evT, sv_nth, sv_adq, sv_gs] at h12
  have h13 := hf _ (List.mem_of_getElem? (i := 13) rfl)
  simp [sv_FQk, sv_FQ, sv_evs, sv_ev, sv_evT, sv_nth, sv_adq, sv_gs] at h13
  have h14 := hf _ (List.mem_of_getElem? (i := 14) rfl)
  simp [sv_FQk, sv_FQ, sv_evs, sv_ev, sv_evT, sv_nth, sv_adq, sv_gs] at h14
  have h15 := hf _ (List.mem_of_getElem? (i := 15) rfl)
  simp [sv_FQk, sv_FQ, sv_evs, sv_ev, sv_evT, sv_nth, sv_adq, sv_gs] at h15
  have h16 := hf _ (List.mem_of_getElem? (i := 16) rfl)
  simp [sv_FQk, sv_FQ, sv_evs, sv_ev, sv_evT, sv_nth, sv_adq, sv_gs] at h16
  have h17 := hf _ (List.mem_of_getElem? (i := 17) rfl)
  simp [sv_FQk, sv_FQ, sv_evs, sv_ev, sv_evT, sv_nth, sv_adq, sv_gs] at h17
  have h18 := hf _ (List.mem_of_getElem? (i := 18) rfl)
  simp [sv_FQk, sv_FQ, sv_evs, sv_ev, sv_evT, sv_nth, sv_adq, sv_gs] at h18
  have h19 := hf _ (List.mem_of_getElem? (i := 19) rfl)
  simp [sv_FQk, sv_FQ, sv_evs, sv_ev, sv_evT, sv_nth, sv_adq, sv_gs] at h19
  have h20 := hf _ (List.mem_of_getElem? (i := 20) rfl)
  simp [sv_FQk, sv_FQ, sv_evs, sv_ev, sv_evT, sv_nth, sv_adq, sv_gs] at h20
  have h21 := hf _ (List.mem_of_getElem? (i := 21) rfl)
  simp [sv_FQk, sv_FQ, sv_evs, sv_ev, sv_evT, sv_nth, sv_adq, sv_gs] at h21
  have h22 := hf _ (List.mem_of_getElem? (i := 22) rfl)
  simp [sv_FQk, sv_FQ, sv_evs, sv_ev, sv_evT, sv_nth, sv_adq, sv_gs] at h22
  clear hf
  obtain ⟨⟨⟨-, Kso⟩, ⟨-, Ksf⟩, ⟨-, Ken⟩, ⟨-, Klv⟩, ⟨-, Klo⟩, ⟨-, Kcu⟩, ⟨-, Kns⟩⟩, h0⟩ := h0
  rw [sv_Qsrc_iff] at h0
  replace h1 := h1 blv (by omega) (by have := h2 blv; omega)
  replace h4 := h4 blo (by omega) (by have := h5 blo; omega)
  replace h7 := h7 bcu (by omega) (by have := h8 bcu; omega)
  replace h10 := h10 bns (by omega) (by have := h11 bns; omega)
  replace h16 := h16 bso (by omega) (by have := h17 bso; omega)
  have eso : sv_put g xlo xi xx xso = g xso := sv_put_ne (sv_kf_ne Kso p3 (by decide))
  have esf : sv_put g xlo xi xx xsf = g xsf := sv_put_ne (sv_kf_ne Ksf p3 (by decide))
  have een : sv_put g xlo xi xx xen = g xen := sv_put_ne (sv_kf_ne Ken p3 (by decide))
  have elv : sv_put g xlo xi xx xlv = g xlv := sv_put_ne (sv_kf_ne Klv p3 (by decide))
  have ecu : sv_put g xlo xi xx xcu = g xcu := sv_put_ne (sv_kf_ne Kcu p3 (by decide))
  have ens : sv_put g xlo xi xx xns = g xns := sv_put_ne (sv_kf_ne Kns p3 (by decide))
  intro f hf
  have hf : f ∈ [(52, [], [(0, [(3, 1)]), (0, [(4, 1)]), (0, [(5, 1)]), (0, [(6, 1)]), (0, [(0, 1)]), (0, [(7, 1)]), (0, [(8, 1)]), (0, [(9, 1)])])] := hf
  simp only [List.mem_cons, List.not_mem_nil, or_false] at hf
  subst hf
  · simp [sv_FQk, sv_FQ, sv_evs, sv_ev, sv_evT, sv_nth, sv_adq, sv_gs, q_Ks_36, q_Q_36]
    refine ⟨⟨⟨bso, Kso⟩, ⟨bsf, Ksf⟩, ⟨ben, Ken⟩, ⟨blv, Klv⟩, ⟨blo, Klo⟩, ⟨bcu, Kcu⟩, ⟨bns, Kns⟩⟩, ?_⟩
    rw [sv_Qsrc_iff]
    simp only [sv_put_eq, eso, esf, een, elv, ecu, ens]
    intro t k t1 t2 k1 k2 k3
    by_cases e : t = xi
    · rw [if_pos e, e] at k3
      by_cases e2 : k = xy1 + xy2 + xy3 + xy4
      · left
        have u : g xso (150 * t + k) = xg := sv_fat (by omega) h16
        omega
      · exact h0 t k t1 t2 k1 k2 (by rw [e]; omega)
    · rw [if_neg e] at k3
      exact h0 t k t1 t2 k1 k2 k3
-- src_ncu
def q_m89 : Nat × SvM := (77, ([(0, none), (-1180591620717411303424, none), (-1180591620717411303424, none), (0, none), (0, none), (0, none), (0, none), (0, none), (0, none), (-1180591620717411303424, none)], [(52, [], [(0, [(3, 1)]), (0, [(4, 1)]), (0, [(5, 1)]), (0, [(6, 1)]), (0, [(7, 1)]), (0, [(0, 1)]), (0, [(8, 1)]), (0, [(9, 1)])]), (0, [], [(0, [(1, 1), (9, -1)])])], [(52, [], [(0, [(3, 1)]), (0, [(4, 1)]), (0, [(5, 1)]), (0, [(6, 1)]), (0, [(7, 1)]), (0, [(0, 1)]), (0, [(8, 1)]), (0, [(9, 1)])])]))
theorem q_m89_ok : ∀ (g : Int → Int → Int) (ln : Int → Int) (kf : Int → Nat) (ρ : List Int) (a i x : Int), sv_BOk ρ q_m89.2.1 → (∀ f ∈ q_m89.2.2.1, sv_FQk q_Ks q_Q g ln kf ρ f) → sv_nth ρ 0 = some a → sv_nth ρ 1 = some i → sv_nth ρ 2 = some x → 0 ≤ a → 0 ≤ i → i < ln a → kf a = q_m89.1 → ∀ f ∈ q_m89.2.2.2, sv_FQk q_Ks q_Q (sv_put g a i x) ln kf ρ f := by
  intro g ln kf ρ a i x hb hf n0 n1 n2 p0 p1 p2 p3
  obtain ⟨hl, hb⟩ := hb
  obtain ⟨xcu, r0, rfl, l0⟩ := sv_lens hl
  obtain ⟨xi, r1, rfl, l1⟩ := sv_lens l0
  obtain ⟨xx, r2, rfl, l2⟩ := sv_lens l1
  obtain ⟨xso, r3, rfl, l3⟩ := sv_lens l2
  obtain ⟨xsf, r4, rfl, l4⟩ := sv_lens l3
  obtain ⟨xen, r5, rfl, l5⟩ := sv_lens l4
  obtain ⟨xlv, r6, rfl, l6⟩ := sv_lens l5
  obtain ⟨xlo, r7, rfl, l7⟩ := sv_lens l6
  obtain ⟨xns, r8, rfl, l8⟩ := sv_lens l7
  obtain ⟨xn, r9, rfl, l9⟩ := sv_lens l8
  obtain rfl := sv_len0 l9
  clear l0 l1 l2 l3 l4 l5 l6 l7 l8 l9 hl
  have bcu : 0 ≤ xcu := (hb 0 _ _ rfl rfl).1
  have bso : 0 ≤ xso := (hb 3 _ _ rfl rfl).1
  have bsf : 0 ≤ xsf := (hb 4 _ _ rfl rfl).1
  have ben : 0 ≤ xen := (hb 5 _ _ rfl rfl).1
  have blv : 0 ≤ xlv := (hb 6 _ _ rfl rfl).1
  have blo : 0 ≤ xlo := (hb 7 _ _ rfl rfl).1
  have bns : 0 ≤ xns := (hb 8 _ _ rfl rfl).1
  clear hb
  obtain rfl : xcu = a := by simpa [sv_nth] using n0
  obtain rfl : xi = i := by simpa [sv_nth] using n1
  obtain rfl : xx = x := by simpa [sv_nth] using n2
  clear n0 n1 n2
  have p3 : kf xcu = 77 := p3
  have h0 := hf _ (List.mem_of_getElem? (i := 0) rfl)
  simp [sv_FQk, sv_FQ, sv_evs, sv_ev, sv_evT, sv_nth, sv_adq, sv_gs, q_Ks_36, q_Q_36] at h0
  have h1 := hf _ (List.mem_of_getElem? (i := 1) rfl)
  simp [sv_FQk, sv_FQ, sv_evs, sv_ev, sv_evT, sv_nth, sv_adq, sv_gs] at h1
  clear hf
  obtain ⟨⟨⟨-, Kso⟩, ⟨-, Ksf⟩, ⟨-, Ken⟩, ⟨-, Klv⟩, ⟨-, Klo⟩, ⟨-, Kcu⟩, ⟨-, Kns⟩⟩, h0⟩ := h0
  rw [sv_Qsrc_iff] at h0
  have eso : sv_put g xcu xi xx xso = g xso := sv_put_ne (sv_kf_ne Kso p3 (by decide))
  have esf : sv_put g xcu xi xx xsf = g xsf := sv_put_ne (sv_kf_ne Ksf p3 (by decide))
  have een : sv_put g xcu xi xx xen = g xen := sv_put_ne (sv_kf_ne Ken p3 (by decide))
  have elv : sv_put g xcu xi xx xlv = g xlv := sv_put_ne (sv_kf_ne Klv p3 (by decide))
  have elo : sv_put g xcu xi xx xlo = g xlo := sv_put_ne (sv_kf_ne Klo p3 (by decide))
  have ens : sv_put g xcu xi xx xns = g xns := sv_put_ne (sv_kf_ne Kns p3 (by decide))
  intro f hf
  have hf : f ∈ [(52, [], [(0, [(3, 1)]), (0, [(4, 1)]), (0, [(5, 1)]), (0, [(6, 1)]), (0, [(7, 1)]), (0, [(0, 1)]), (0, [(8, 1)]), (0, [(9, 1)])])] := hf
  simp only [List.mem_cons, List.not_mem_nil, or_false] at hf
  subst hf
  · simp [sv_FQk, sv_FQ, sv_evs, sv_ev, sv_evT, sv_nth, sv_adq, sv_gs, q_Ks_36, q_Q_36]
    refine ⟨⟨⟨bso, Kso⟩, ⟨bsf, Ksf⟩, ⟨ben, Ken⟩, ⟨blv, Klv⟩, ⟨blo, Klo⟩, ⟨bcu, Kcu⟩, ⟨bns, Kns⟩⟩, ?_⟩
    rw [sv_Qsrc_iff]
    simp only [sv_put_eq, eso, esf, een, elv, elo, ens]
    intro t k t1 t2 k1 k2 k3
    rw [if_neg (by omega)] at k3
    exact h0 t k t1 t2 k1 k2 k3
-- src_acu
def q_m90 : Nat × SvM := (77, ([(0, none), (-1180591620717411303424, none), (-1180591620717411303424, none), (0, none), (0, none), (0, none), (0, none), (0, none), (0, none), (-1180591620717411303424, none), (-1180591620717411303424, none), (-1180591620717411303424, none), (-1180591620717411303424, none), (-1180591620717411303424, none), (-1180591620717411303424, none), (-1180591620717411303424, none), (-1180591620717411303424, none), (-1180591620717411303424, none), (-1180591620717411303424, none), (-1180591620717411303424, none)], [(52, [], [(0, [(3, 1)]), (0, [(4, 1)]), (0, [(5, 1)]), (0, [(6, 1)]), (0, [(7, 1)]), (0, [(0, 1)]), (0, [(8, 1)]), (0, [(9, 1)])]), (4, [75, 1], [(0, [(6, 1)]), (0, [(1, 1)]), (0, [(12, 1)])]), (2, [], [(0, [(6, 1)]), (0, [(13, 1)])]), (0, [], [(-1, [(1, -1), (13, 1)])]), (4, [76, 1], [(0, [(7, 1)]), (0, [(1, 1)]), (0, [(14, 1)])]), (2, [], [(0, [(7, 1)]), (0, [(15, 1)])]), (0, [], [(-1, [(1, -1), (15, 1)])]), (4, [77, 1], [(0, [(0, 1)]), (0, [(1, 1)]), (0, [(16, 1)])]), (2, [], [(0, [(0, 1)]), (0, [(17, 1)])]), (0, [], [(-1, [(1, -1), (17, 1)])]), (4, [78, 1], [(0, [(8, 1)]), (0, [(1, 1)]), (0, [(18, 1)])]), (2, [], [(0, [(8, 1)]), (0, [(19, 1)])]), (0, [], [(-1, [(1, -1), (19, 1)])]), (0, [], [(1, [(2, -1), (16, 1)])]), (0, [], [(-1, [(2, 1), (16, -1)])]), (0, [], [(0, [(1, 1)])]), (4, [97, 1], [(0, [(3, 1)]), (0, [(1, 150), (12, 1), (14, 1), (16, 1), (18, 1)]), (0, [(10, 1)])]), (2, [], [(0, [(3, 1)]), (0, [(11, 1)])]), (0, [], [(-1, [(1, -150), (11, 1), (12, -1), (14, -1), (16, -1), (18, -1)])]), (0, [], [(0, [(12, 1), (14, 1), (16, 1), (18, 1)])]), (0, [], [(149, [(12, -1), (14, -1), (16, -1), (18, -1)])]), (0, [], [(-1, [(10, -1)])]), (0, [], [(1, [(10, 1)])])], [(52, [], [(0, [(3, 1)]), (0, [(4, 1)]), (0, [(5, 1)]), (0, [(6, 1)]), (0, [(7, 1)]), (0, [(0, 1)]), (0, [(8, 1)]), (0, [(9, 1)])])]))
theorem q_m90_ok : ∀ (g : Int → Int → Int) (ln : Int → Int) (kf : Int → Nat) (ρ : List Int) (a i x : Int), sv_BOk ρ q_m90.2.1 → (∀ f ∈ q_m90.2.2.1, sv_FQk q_Ks q_Q g ln kf ρ f) → sv_nth ρ 0 = some a → sv_nth ρ 1 = some i → sv_nth ρ 2 = some x → 0 ≤ a → 0 ≤ i → i < ln a → kf a = q_m90.1 → ∀ f ∈ q_m90.2.2.2, sv_FQk q_Ks q_Q (sv_put g a i x) ln kf ρ f := by
  intro g ln kf ρ a i x hb hf n0 n1 n2 p0 p1 p2 p3
  obtain ⟨hl, hb⟩ := hb
  obtain ⟨xcu, r0, rfl, l0⟩ := sv_lens hl
  obtain ⟨xi, r1, rfl, l1⟩ := sv_lens l0
  obtain ⟨xx, r2, rfl, l2⟩ := sv_lens l1
  obtain ⟨xso, r3, rfl, l3⟩ := sv_lens l2
  obtain ⟨xsf, r4, rfl, l4⟩ := sv_lens l3
  obtain ⟨xen, r5, rfl, l5⟩ := sv_lens l4
  obtain ⟨xlv, r6, rfl, l6⟩ := sv_lens l5
  obtain ⟨xlo, r7, rfl, l7⟩ := sv_lens l6
  obtain ⟨xns, r8, rfl, l8⟩ := sv_lens l7
  obtain ⟨xn, r9, rfl, l9⟩ := sv_lens l8
  obtain ⟨xg, r10, rfl, l10⟩ := sv_lens l9
  obtain ⟨xN, r11, rfl, l11⟩ := sv_lens l10
  obtain ⟨xy1, r12, rfl, l12⟩ := sv_lens l11
  obtain ⟨xM1, r13, rfl, l13⟩ := sv_lens l12
  obtain ⟨xy2, r14, rfl, l14⟩ := sv_lens l13
  obtain ⟨xM2, r15, rfl, l15⟩ := sv_lens l14
  obtain ⟨xy3, r16, rfl, l16⟩ := sv_lens l15
  obtain ⟨xM3, r17, rfl, l17⟩ := sv_lens l16
  obtain ⟨xy4, r18, rfl, l18⟩ := sv_lens l17
  obtain ⟨xM4, r19, rfl, l19⟩ := sv_lens l18
  obtain rfl := sv_len0 l19
  clear l0 l1 l2 l3 l4 l5 l6 l7 l8 l9 l10 l11 l12 l13 l14 l15 l16 l17 l18 l19 hl
  have bcu : 0 ≤ xcu := (hb 0 _ _ rfl rfl).1
  have bso : 0 ≤ xso := (hb 3 _ _ rfl rfl).1
  have bsf : 0 ≤ xsf := (hb 4 _ _ rfl rfl).1
  have ben : 0 ≤ xen := (hb 5 _ _ rfl rfl).1
  have blv : 0 ≤ xlv := (hb 6 _ _ rfl rfl).1
  have blo : 0 ≤ xlo := (hb 7 _ _ rfl rfl).1
  have bns : 0 ≤ xns := (hb 8 _ _ rfl rfl).1
  clear hb
  obtain rfl : xcu = a := by simpa [sv_nth] using n0
  obtain rfl : xi = i := by simpa [sv_nth] using n1
  obtain rfl : xx = x := by simpa [sv_nth] using n2
  clear n0 n1 n2
  have p3 : kf xcu = 77 := p3
  have h0 := hf _ (List.mem_of_getElem? (i := 0) rfl)
  simp [sv_FQk, sv_FQ, sv_evs, sv_ev, sv_evT, sv_nth, sv_adq, sv_gs, q_Ks_36, q_Q_36] at h0
  have h1 := hf _ (List.mem_of_getElem? (i := 1) rfl)
  simp [sv_FQk, sv_FQ, sv_evs, sv_ev, sv_evT, sv_nth, sv_adq, sv_gs] at h1
  have h2 := hf _ (List.mem_of_getElem? (i := 2) rfl)
  simp [sv_FQk, sv_FQ, sv_evs, sv_ev, sv_evT, sv_nth, sv_adq, sv_gs] at h2
  have h3 := hf _ (List.mem_of_getElem? (i := 3) rfl)
  simp [sv_FQk, sv_FQ, sv_evs, sv_ev, sv_evT, sv_nth, sv_adq, sv_gs] at h3
  have h4 := hf _ (List.mem_of_getElem? (i := 4) rfl)
  simp [sv_FQk, sv_FQ, sv_evs, sv_ev, sv_evT, sv_nth, sv_adq, sv_gs] at h4
  have h5 := hf _ (List.mem_of_getElem? (i := 5) rfl)
  simp [sv_FQk, sv_FQ, sv_evs, sv_ev, sv_evT, sv_nth, sv_adq, sv_gs] at h5
  have h6 := hf _ (List.mem_of_getElem? (i := 6) rfl)
  simp [sv_FQk, sv_FQ, sv_evs, sv_ev, sv_evT, sv_nth, sv_adq, sv_gs] at h6
  have h7 := hf _ (List.mem_of_getElem? (i := 7) rfl)
  simp [sv_FQk, sv_FQ, sv_evs, sv_ev, sv_evT, sv_nth, sv_adq, sv_gs] at h7
  have h8 := hf _ (List.mem_of_getElem? (i := 8) rfl)
  simp [sv_FQk, sv_FQ, sv_evs, sv_ev, sv_evT, sv_nth, sv_adq, sv_gs] at h8
  have h9 := hf _ (List.mem_of_getElem? (i := 9) rfl)
  simp [sv_FQk, sv_FQ, sv_evs, sv_ev, sv_evT, sv_nth, sv_adq, sv_gs] at h9
  have h10 := hf _ (List.mem_of_getElem? (i := 10) rfl)
  simp [sv_FQk, sv_FQ, sv_evs, sv_ev, sv_evT, sv_nth, sv_adq, sv_gs] at h10
  have h11 := hf _ (List.mem_of_getElem? (i := 11) rfl)
  simp [sv_FQk, sv_FQ, sv_evs, sv_ev, sv_evT, sv_nth, sv_adq, sv_gs] at h11
  have h12 := hf _ (List.mem_of_getElem? (i := 12) rfl)
  simp [sv_FQk, sv_FQ, sv_evs, sv_ev, sv_evT, sv_nth, sv_adq, sv_gs] at h12
  have h13 := hf _ (List.mem_of_getElem? (i := 13) rfl)
  simp [sv_FQk, sv_FQ, sv_evs, sv_ev, sv_evT, sv_nth, sv_adq, sv_gs] at h13
  have h14 := hf _ (List.mem_of_getElem? (i := 14) rfl)
  simp [sv_FQk, sv_FQ, sv_evs, sv_ev, sv_evT, sv_nth, sv_adq, sv_gs] at h14
  have h15 := hf _ (List.mem_of_getElem? (i := 15) rfl)
  simp [sv_FQk, sv_FQ, sv_evs, sv_ev, sv_evT, sv_nth, sv_adq, sv_gs] at h15
  have h16 := hf _ (List.mem_of_getElem? (i := 16) rfl)
  simp [sv_FQk, sv_FQ, sv_evs, sv_ev, sv_evT, sv_nth, sv_adq, sv_gs] at h16
  have h17 := hf _ (List.mem_of_getElem? (i := 17) rfl)
  simp [sv_FQk, sv_FQ, sv_evs, sv_ev, sv_evT, sv_nth, sv_adq, sv_gs] at h17
  have h18 := hf _ (List.mem_of_getElem? (i := 18) rfl)
  simp [sv_FQk, sv_FQ, sv_evs, sv_ev, sv_evT, sv_nth, sv_adq, sv_gs] at h18
  have h19 := hf _ (List.mem_of_getElem? (i := 19) rfl)
  simp [sv_FQk, sv_FQ, sv_evs, sv_ev, sv_evT, sv_nth, sv_adq, sv_gs] at h19
  have h20 := hf _ (List.mem_of_getElem? (i := 20) rfl)
  simp [sv_FQk, sv_FQ, sv_evs, sv_ev, sv_evT, sv_nth, sv_adq, sv_gs] at h20
  have h21 := hf _ (List.mem_of_getElem? (i := 21) rfl)
  simp [sv_FQk, sv_FQ, sv_evs, sv_ev, sv_evT, sv_nth, sv_adq, sv_gs] at h21
  have h22 := hf _ (List.mem_of_getElem? (i := 22) rfl)
  simp [sv_FQk, sv_FQ, sv_evs, sv_ev, sv_evT, sv_nth, sv_adq, sv_gs] at h22
  clear hf
  obtain ⟨⟨⟨-, Kso⟩, ⟨-, Ksf⟩, ⟨-, Ken⟩, ⟨-, Klv⟩, ⟨-, Klo⟩, ⟨-, Kcu⟩, ⟨-, Kns⟩⟩, h0⟩ := h0
  rw [sv_Qsrc_iff] at h0
  replace h1 := h1 blv (by omega) (by have := h2 blv; omega)
  replace h4 := h4 blo (by omega) (by have := h5 blo; omega)
  replace h7 := h7 bcu (by omega) (by have := h8 bcu; omega)
  replace h10 := h10 bns (by omega) (by have := h11 bns; omega)
  replace h16 := h16 bso (by omega) (by have := h17 bso; omega)
  have eso : sv_put g xcu xi xx xso = g xso := sv_put_ne (sv_kf_ne Kso p3 (by decide))
  have esf : sv_put g xcu xi xx xsf = g xsf := sv_put_ne (sv_kf_ne Ksf p3 (by decide))
  have een : sv_put g xcu xi xx xen = g xen := sv_put_ne (sv_kf_ne Ken p3 (by decide))
  have elv : sv_put g xcu xi xx xlv = g xlv := sv_put_ne (sv_kf_ne Klv p3 (by decide))
  have elo : sv_put g xcu xi xx xlo = g xlo := sv_put_ne (sv_kf_ne Klo p3 (by decide))
  have ens : sv_put g xcu xi xx xns = g xns := sv_put_ne (sv_kf_ne Kns p3 (by decide))
  intro f hf
  have hf : f ∈ [(52, [], [(0, [(3, 1)]), (0, [(4, 1)]), (0, [(5, 1)]), (0, [(6, 1)]), (0, [(7, 1)]), (0, [(0, 1)]), (0, [(8, 1)]), (0, [(9, 1)])])] := hf
  simp only [List.mem_cons, List.not_mem_nil, or_false] at hf
  subst hf
  · simp [sv_FQk, sv_FQ, sv_evs, sv_ev, sv_evT, sv_nth, sv_adq, sv_gs, q_Ks_36, q_Q_36]
    refine ⟨⟨⟨bso, Kso⟩, ⟨bsf, Ksf⟩, ⟨ben, Ken⟩, ⟨blv, Klv⟩, ⟨blo, Klo⟩, ⟨bcu, Kcu⟩, ⟨bns, Kns⟩⟩, ?_⟩
    rw [sv_Qsrc_iff]
    simp only [sv_put_eq, eso, esf, een, elv, elo, ens]
    intro t k t1 t2 k1 k2 k3
    by_cases e : t = xi
    · rw [if_pos e, e] at k3
      by_cases e2 : k = xy1 + xy2 + xy3 + xy4
      · left
        have u : g xso (150 * t + k) = xg := sv_fat (by omega) h16
        omega
      · exact h0 t k t1 t2 k1 k2 (by rw [e]; omega)
    · rw [if_neg e] at k3
      exact h0 t k t1 t2 k1 k2 k3
-- src_nns
def q_m91 : Nat × SvM := (78, ([(0, none), (-1180591620717411303424, none), (-1180591620717411303424, none), (0, none), (0, none), (0, none), (0, none), (0, none), (0, none), (-1180591620717411303424, none)], [(52, [], [(0, [(3, 1)]), (0, [(4, 1)]), (0, [(5, 1)]), (0, [(6, 1)]), (0, [(7, 1)]), (0, [(8, 1)]), (0, [(0, 1)]), (0, [(9, 1)])]), (0, [], [(0, [(1, 1), (9, -1)])])], [(52, [], [(0, [(3, 1)]), (0, [(4, 1)]), (0, [(5, 1)]), (0, [(6, 1)]), (0, [(7, 1)]), (0, [(8, 1)]), (0, [(0, 1)]), (0, [(9, 1)])])]))
theorem q_m91_ok : ∀ (g : Int → Int → Int) (ln : Int → Int) (kf : Int → Nat) (ρ : List Int) (a i x : Int), sv_BOk ρ q_m91.2.1 → (∀ f ∈ q_m91.2.2.1, sv_FQk q_Ks q_Q g ln kf ρ f) → sv_nth ρ 0 = some a → sv_nth ρ 1 = some i → sv_nth ρ 2 = some x → 0 ≤ a → 0 ≤ i → i < ln a → kf a = q_m91.1 → ∀ f ∈ q_m91.2.2.2, sv_FQk q_Ks q_Q (sv_put g a i x) ln kf ρ f := by
  intro g ln kf ρ a i x hb hf n0 n1 n2 p0 p1 p2 p3
  obtain ⟨hl, hb⟩ := hb
  obtain ⟨xns, r0, rfl, l0⟩ := sv_lens hl
  obtain ⟨xi, r1, rfl, l1⟩ := sv_lens l0
  obtain ⟨xx, r2, rfl, l2⟩ := sv_lens l1
  obtain ⟨xso, r3, rfl, l3⟩ := sv_lens l2
  obtain ⟨xsf, r4, rfl, l4⟩ := sv_lens l3
  obtain ⟨xen, r5, rfl, l5⟩ := sv_lens l4
  obtain ⟨xlv, r6, rfl, l6⟩ := sv_lens l5
  obtain ⟨xlo, r7, rfl, l7⟩ := sv_lens l6
  obtain ⟨xcu, r8, rfl, l8⟩ := sv_lens l7
  obtain ⟨xn, r9, rfl, l9⟩ := sv_lens l8
  obtain rfl := sv_len0 l9
  clear l0 l1 l2 l3 l4 l5 l6 l7 l8 l9 hl
  have bns : 0 ≤ xns := (hb 0 _ _ rfl rfl).1
  have bso : 0 ≤ xso := (hb 3 _ _ rfl rfl).1
  have bsf : 0 ≤ xsf := (hb 4 _ _ rfl rfl).1
  have ben : 0 ≤ xen := (hb 5 _ _ rfl rfl).1
  have blv : 0 ≤ xlv := (hb 6 _ _ rfl rfl).1
  have blo : 0 ≤ xlo := (hb 7 _ _ rfl rfl).1
  have bcu : 0 ≤ xcu := (hb 8 _ _ rfl rfl).1
  clear hb
  obtain rfl : xns = a := by simpa [sv_nth] using n0
  obtain rfl : xi = i := by simpa [sv_nth] using n1
  obtain rfl : xx = x := by simpa [sv_nth] using n2
  clear n0 n1 n2
  have p3 : kf xns = 78 := p3
  have h0 := hf _ (List.mem_of_getElem? (i := 0) rfl)
  simp [sv_FQk, sv_FQ, sv_evs, sv_ev, sv_evT, sv_nth, sv_adq, sv_gs, q_Ks_36, q_Q_36] at h0
  have h1 := hf _ (List.mem_of_getElem? (i := 1) rfl)
  simp [sv_FQk, sv_FQ, sv_evs, sv_ev, sv_evT, sv_nth, sv_adq, sv_gs] at h1
  clear hf
  obtain ⟨⟨⟨-, Kso⟩, ⟨-, Ksf⟩, ⟨-, Ken⟩, ⟨-, Klv⟩, ⟨-, Klo⟩, ⟨-, Kcu⟩, ⟨-, Kns⟩⟩, h0⟩ := h0
  rw [sv_Qsrc_iff] at h0
  have eso : sv_put g xns xi xx xso = g xso := sv_put_ne (sv_kf_ne Kso p3 (by decide))
  have esf : sv_put g xns xi xx xsf = g xsf := sv_put_ne (sv_kf_ne Ksf p3 (by decide))
  have een : sv_put g xns xi xx xen = g xen := sv_put_ne (sv_kf_ne Ken p3 (by decide))
  have elv : sv_put g xns xi xx xlv = g xlv := sv_put_ne (sv_kf_ne Klv p3 (by decide))
  have elo : sv_put g xns xi xx xlo = g xlo := sv_put_ne (sv_kf_ne Klo p3 (by decide))
  have ecu : sv_put g xns xi xx xcu = g xcu := sv_put_ne (sv_kf_ne Kcu p3 (by decide))
  intro f hf
  have hf : f ∈ [(52, [], [(0, [(3, 1)]), (0, [(4, 1)]), (0, [(5, 1)]), (0, [(6, 1)]), (0, [(7, 1)]), (0, [(8, 1)]), (0, [(0, 1)]), (0, [(9, 1)])])] := hf
  simp only [List.mem_cons, List.not_mem_nil, or_false] at hf
  subst hf
  · simp [sv_FQk, sv_FQ, sv_evs, sv_ev, sv_evT, sv_nth, sv_adq, sv_gs, q_Ks_36, q_Q_36]
    refine ⟨⟨⟨bso, Kso⟩, ⟨bsf, Ksf⟩, ⟨ben, Ken⟩, ⟨blv, Klv⟩, ⟨blo, Klo⟩, ⟨bcu, Kcu⟩, ⟨bns, Kns⟩⟩, ?_⟩
    rw [sv_Qsrc_iff]
    simp only [sv_put_eq, eso, esf, een, elv, elo, ecu]
    intro t k t1 t2 k1 k2 k3
    rw [if_neg (by omega)] at k3
    exact h0 t k t1 t2 k1 k2 k3
-- src_ans
def q_m92 : Nat × SvM := (78, ([(0, none), (-1180591620717411303424, none), (-1180591620717411303424, none), (0, none), (0, none), (0, none), (0, none), (0, none), (0, none), (-1180591620717411303424, none), (-1180591620717411303424, none), (-1180591620717411303424, none), (-1180591620717411303424, none), (-1180591620717411303424, none), (-1180591620717411303424, none), (-1180591620717411303424, none), (-1180591620717411303424, none), (-1180591620717411303424, none), (-1180591620717411303424, none), (-1180591620717411303424, none)], [(52, [], [(0, [(3, 1)]), (0, [(4, 1)]), (0, [(5, 1)]), (0, [(6, 1)]), (0, [(7, 1)]), (0, [(8, 1)]), (0, [(0, 1)]), (0, [(9, 1)])]), (4, [75, 1], [(0, [(6, 1)]), (0, [(1, 1)]), (0, [(12, 1)])]), (2, [], [(0, [(6, 1)]), (0, [(13, 1)])]), (0, [], [(-1, [(1, -1), (13, 1)])]), (4, [76, 1], [(0, [(7, 1)]), (0, [(1, 1)]), (0, [(14, 1)])]), (2, [], [(0, [(7, 1)]), (0, [(15, 1)])]), (0, [], [(-1, [(1, -1), (15, 1)])]), (4, [77, 1], [(0, [(8, 1)]), (0, [(1, 1)]), (0, [(16, 1)])]), (2, [], [(0, [(8, 1)]), (0, [(17, 1)])]), (0, [], [(-1, [(1, -1), (17, 1)])]), (4, [78, 1], [(0, [(0, 1)]), (0, [(1, 1)]), (0, [(18, 1)])]), (2, [], [(0, [(0, 1)]), (0, [(19, 1)])]), (0, [], [(-1, [(1, -1), (19, 1)])]), (0, [], [(1, [(2, -1), (18, 1)])]), (0, [], [(-1, [(2, 1), (18, -1)])]), (0, [], [(0, [(1, 1)])]), (4, [97, 1], [(0, [(3, 1)]), (0, [(1, 150), (12, 1), (14, 1), (16, 1), (18, 1)]), (0, [(10, 1)])]), (2, [], [(0, [(3, 1)]), (0, [(11, 1)])]), (0, [], [(-1, [(1, -150), (11, 1), (12, -1), (14, -1), (16, -1), (18, -1)])]), (0, [], [(0, [(12, 1), (14, 1), (16, 1), (18, 1)])]), (0, [], [(149, [(12, -1), (14, -1), (16, -1), (18, -1)])]), (0, [], [(-1, [(10, -1)])]), (0, [], [(1, [(10, 1)])])], [(52, [], [(0, [(3, 1)]), (0, [(4, 1)]), (0, [(5, 1)]), (0, [(6, 1)]), (0, [(7, 1)]), (0, [(8, 1)]), (0, [(0, 1)]), (0, [(9, 1)])])]))
theorem q_m92_ok : ∀ (g : Int → Int → Int) (ln : Int → Int) (kf : Int → Nat) (ρ : List Int) (a i x : Int), sv_BOk ρ q_m92.2.1 → (∀ f ∈ q_m92.2.2.1, sv_FQk q_Ks q_Q g ln kf ρ f) → sv_nth ρ 0 = some a → sv_nth ρ 1 = some i → sv_nth ρ 2 = some x → 0 ≤ a → 0 ≤ i → i < ln a → kf a = q_m92.1 → ∀ f ∈ q_m92.2.2.2, sv_FQk q_Ks q_Q (sv_put g a i x) ln kf ρ f := by
  intro g ln kf ρ a i x hb hf n0 n1 n2 p0 p1 p2 p3
  obtain ⟨hl, hb⟩ := hb
  obtain ⟨xns, r0, rfl, l0⟩ := sv_lens hl
  obtain ⟨xi, r1, rfl, l1⟩ := sv_lens l0
  obtain ⟨xx, r2, rfl, l2⟩ := sv_lens l1
  obtain ⟨xso, r3, rfl, l3⟩ := sv_lens l2
  obtain ⟨xsf, r4, rfl, l4⟩ := sv_lens l3
  obtain ⟨xen, r5, rfl, l5⟩ := sv_lens l4
  obtain ⟨xlv, r6, rfl, l6⟩ := sv_lens l5
  obtain ⟨xlo, r7, rfl, l7⟩ := sv_lens l6
  obtain ⟨xcu, r8, rfl, l8⟩ := sv_lens l7
  obtain ⟨xn, r9, rfl, l9⟩ := sv_lens l8
  obtain ⟨xg, r10, rfl, l10⟩ := sv_lens l9
  obtain ⟨xN, r11, rfl, l11⟩ := sv_lens l10
  obtain ⟨xy1, r12, rfl, l12⟩ := sv_lens l11
  obtain ⟨xM1, r13, rfl, l13⟩ := sv_lens l12
  obtain ⟨xy2, r14, rfl, l14⟩ := sv_lens l13
  obtain ⟨xM2, r15, rfl, l15⟩ := sv_lens l14
  obtain ⟨xy3, r16, rfl, l16⟩ := sv_lens l15
  obtain ⟨xM3, r17, rfl, l17⟩ := sv_lens l16
  obtain ⟨xy4, r18, rfl, l18⟩ := sv_lens l17
  obtain ⟨xM4, r19, rfl, l19⟩ := sv_lens l18
  obtain rfl := sv_len0 l19
  clear l0 l1 l2 l3 l4 l5 l6 l7 l8 l9 l10 l11 l12 l13 l14 l15 l16 l17 l18 l19 hl
  have bns : 0 ≤ xns := (hb 0 _ _ rfl rfl).1
  have bso : 0 ≤ xso := (hb 3 _ _ rfl rfl).1
  have bsf : 0 ≤ xsf := (hb 4 _ _ rfl rfl).1
  have ben : 0 ≤ xen := (hb 5 _ _ rfl rfl).1
  have blv : 0 ≤ xlv := (hb 6 _ _ rfl rfl).1
  have blo : 0 ≤ xlo := (hb 7 _ _ rfl rfl).1
  have bcu : 0 ≤ xcu := (hb 8 _ _ rfl rfl).1
  clear hb
  obtain rfl : xns = a := by simpa [sv_nth] using n0
  obtain rfl : xi = i := by simpa [sv_nth] using n1
  obtain rfl : xx = x := by simpa [sv_nth] using n2
  clear n0 n1 n2
  have p3 : kf xns = 78 := p3
  have h0 := hf _ (List.mem_of_getElem? (i := 0) rfl)
  simp [sv_FQk, sv_FQ, sv_evs, sv_ev, sv_evT, sv_nth, sv_adq, sv_gs, q_Ks_36, q_Q_36] at h0
  have h1 := hf _ (List.mem_of_getElem? (i := 1) rfl)
  simp [sv_FQk, sv_FQ, sv_evs, sv_ev, sv_evT, sv_nth, sv_adq, sv_gs] at h1
  have h2 := hf _ (List.mem_of_getElem? (i := 2) rfl)
  simp [sv_FQk, sv_FQ, sv_evs, sv_ev, sv_evT, sv_nth, sv_adq, sv_gs] at h2
  have h3 := hf _ (List.mem_of_getElem? (i := 3) rfl)
  simp [sv_FQk, sv_FQ, sv_evs, sv_ev, sv_evT, sv_nth, sv_adq, sv_gs] at h3
  have h4 := hf _ (List.mem_of_getElem? (i := 4) rfl)
  simp [sv_FQk, sv_FQ, sv_evs, sv_ev, sv_evT, sv_nth, sv_adq, sv_gs] at h4
  have h5 := hf _ (List.mem_of_getElem? (i := 5) rfl)
  simp [sv_FQk, sv_FQ, sv_evs, sv_ev, sv_evT, sv_nth, sv_adq, sv_gs] at h5
  have h6 := hf _ (List.mem_of_getElem? (i := 6) rfl)
  simp [sv_FQk, sv_FQ, sv_evs, sv_ev, sv_evT, sv_nth, sv_adq, sv_gs] at h6
  have h7 := hf _ (List.mem_of_getElem? (i := 7) rfl)
  simp [sv_FQk, sv_FQ, sv_evs, sv_ev, sv_evT, sv_nth, sv_adq, sv_gs] at h7
  have h8 := hf _ (List.mem_of_getElem? (i := 8) rfl)
  simp [sv_FQk, sv_FQ, sv_evs, sv_ev, sv_evT, sv_nth, sv_adq, sv_gs] at h8
  have h9 := hf _ (List.mem_of_getElem? (i := 9) rfl)
  simp [sv_FQk, sv_FQ, sv_evs, sv_ev, sv_evT, sv_nth, sv_adq, sv_gs] at h9
  have h10 := hf _ (List.mem_of_getElem? (i := 10) rfl)
  simp [sv_FQk, sv_FQ, sv_evs, sv_ev, sv_evT, sv_nth, sv_adq, sv_gs] at h10
  have h11 := hf _ (List.mem_of_getElem? (i := 11) rfl)
  simp [sv_FQk, sv_FQ, sv_evs, sv_ev, sv_evT, sv_nth, sv_adq, sv_gs] at h11
  have h12 := hf _ (List.mem_of_getElem? (i := 12) rfl)
  simp [sv_FQk, sv_FQ, sv_evs, sv_ev, sv_evT, sv_nth, sv_adq, sv_gs] at h12
  have h13 := hf _ (List.mem_of_getElem? (i := 13) rfl)
  simp [sv_FQk, sv_FQ, sv_evs, sv_ev, sv_evT, sv_nth, sv_adq, sv_gs] at h13
  have h14 := hf _ (List.mem_of_getElem? (i := 14) rfl)
  simp [sv_FQk, sv_FQ, sv_evs, sv_ev, sv_evT, sv_nth, sv_adq, sv_gs] at h14
  have h15 := hf _ (List.mem_of_getElem? (i := 15) rfl)
  simp [sv_FQk, sv_FQ, sv_evs, sv_ev, sv_evT, sv_nth, sv_adq, sv_gs] at h15
  have h16 := hf _ (List.mem_of_getElem? (i := 16) rfl)
  simp [sv_FQk, sv_FQ, sv_evs, sv_ev, sv_evT, sv_nth, sv_adq, sv_gs] at h16
  have h17 := hf _ (List.mem_of_getElem? (i := 17) rfl)
  simp [sv_FQk, sv_FQ, sv_evs, sv_ev, sv_evT, sv_nth, sv_adq, sv_gs] at h17
  have h18 := hf _ (List.mem_of_getElem? (i := 18) rfl)
  simp [sv_FQk, sv_FQ, sv_evs, sv_ev, sv_evT, sv_nth, sv_adq, sv_gs] at h18
  have h19 := hf _ (List.mem_of_getElem? (i := 19) rfl)
  simp [sv_FQk, sv_FQ, sv_evs, sv_ev, sv_evT, sv_nth, sv_adq, sv_gs] at h19
  have h20 := hf _ (List.mem_of_getElem? (i := 20) rfl)
  simp [sv_FQk, sv_FQ, sv_evs, sv_ev, sv_evT, sv_nth, sv_adq, sv_gs] at h20
  have h21 := hf _ (List.mem_of_getElem? (i := 21) rfl)
  simp [sv_FQk, sv_FQ, sv_evs, sv_ev, sv_evT, sv_nth, sv_adq, sv_gs] at h21
  have h22 := hf _ (List.mem_of_getElem? (i := 22) rfl)
  simp [sv_FQk, sv_FQ, sv_evs, sv_ev, sv_evT, sv_nth, sv_adq, sv_gs] at h22
  clear hf
  obtain ⟨⟨⟨-, Kso⟩, ⟨-, Ksf⟩, ⟨-, Ken⟩, ⟨-, Klv⟩, ⟨-, Klo⟩, ⟨-, Kcu⟩, ⟨-, Kns⟩⟩, h0⟩ := h0
  rw [sv_Qsrc_iff] at h0
  replace h1 := h1 blv (by omega) (by have := h2 blv; omega)
  replace h4 := h4 blo (by omega) (by have := h5 blo; omega)
  replace h7 := h7 bcu (by omega) (by have := h8 bcu; omega)
  replace h10 := h10 bns (by omega) (by have := h11 bns; omega)
  replace h16 := h16 bso (by omega) (by have := h17 bso; omega)
  have eso : sv_put g xns xi xx xso = g xso := sv_put_ne (sv_kf_ne Kso p3 (by decide))
  have esf : sv_put g xns xi xx xsf = g xsf := sv_put_ne (sv_kf_ne Ksf p3 (by decide))
  have een : sv_put g xns xi xx xen = g xen := sv_put_ne (sv_kf_ne Ken p3 (by decide))
  have elv : sv_put g xns xi xx xlv = g xlv := sv_put_ne (sv_kf_ne Klv p3 (by decide))
  have elo : sv_put g xns xi xx xlo = g xlo := sv_put_ne (sv_kf_ne Klo p3 (by decide))
  have ecu : sv_put g xns xi xx xcu = g xcu := sv_put_ne (sv_kf_ne Kcu p3 (by decide))
  intro f hf
  have hf : f ∈ [(52, [], [(0, [(3, 1)]), (0, [(4, 1)]), (0, [(5, 1)]), (0, [(6, 1)]), (0, [(7, 1)]), (0, [(8, 1)]), (0, [(0, 1)]), (0, [(9, 1)])])] := hf
  simp only [List.mem_cons, List.not_mem_nil, or_false] at hf
  subst hf
  · simp [sv_FQk, sv_FQ, sv_evs, sv_ev, sv_evT, sv_nth, sv_adq, sv_gs, q_Ks_36, q_Q_36]
    refine ⟨⟨⟨bso, Kso⟩, ⟨bsf, Ksf⟩, ⟨ben, Ken⟩, ⟨blv, Klv⟩, ⟨blo, Klo⟩, ⟨bcu, Kcu⟩, ⟨bns, Kns⟩⟩, ?_⟩
    rw [sv_Qsrc_iff]
    simp only [sv_put_eq, eso, esf, een, elv, elo, ecu]
    intro t k t1 t2 k1 k2 k3
    by_cases e : t = xi
    · rw [if_pos e, e] at k3
      by_cases e2 : k = xy1 + xy2 + xy3 + xy4
      · left
        have u : g xso (150 * t + k) = xg := sv_fat (by omega) h16
        omega
      · exact h0 t k t1 t2 k1 k2 (by rw [e]; omega)
    · rw [if_neg e] at k3
      exact h0 t k t1 t2 k1 k2 k3
-- src_x
def q_m93 : Nat × SvM := (97, ([(0, none), (-1180591620717411303424, none), (-1180591620717411303424, none), (0, none), (0, none), (0, none), (0, none), (0, none), (0, none), (-1180591620717411303424, none), (-1180591620717411303424, none), (-1180591620717411303424, none), (-1180591620717411303424, none), (-1180591620717411303424, none), (-1180591620717411303424, none), (-1180591620717411303424, none)], [(52, [], [(0, [(0, 1)]), (0, [(3, 1)]), (0, [(4, 1)]), (0, [(5, 1)]), (0, [(6, 1)]), (0, [(7, 1)]), (0, [(8, 1)]), (0, [(9, 1)])]), (0, [], [(0, [(10, 1)])]), (0, [], [(0, [(1, 1), (10, -150)])]), (0, [], [(149, [(1, -1), (10, 150)])]), (4, [84, 1], [(0, [(4, 1)]), (0, [(1, 1)]), (0, [(11, 1)])]), (2, [], [(0, [(4, 1)]), (0, [(12, 1)])]), (0, [], [(-1, [(1, -1), (12, 1)])]), (4, [98, 1], [(0, [(3, 1)]), (0, [(1, 1)]), (0, [(13, 1)])]), (2, [], [(0, [(3, 1)]), (0, [(14, 1)])]), (0, [], [(-1, [(1, -1), (14, 1)])]), (4, [84, 1], [(0, [(4, 1)]), (0, [(2, 1), (10, 150)]), (0, [(15, 1)])]), (0, [], [(-1, [(1, 1), (2, -1), (10, -150)])]), (0, [], [(0, [(2, 1)])]), (0, [], [(0, [(13, 1)])]), (0, [], [(0, [(11, -1), (13, -1), (15, 1)])]), (0, [], [(16384, [(11, -1), (13, -1)])])], [(52, [], [(0, [(0, 1)]), (0, [(3, 1)]), (0, [(4, 1)]), (0, [(5, 1)]), (0, [(6, 1)]), (0, [(7, 1)]), (0, [(8, 1)]), (0, [(9, 1)])])]))
theorem q_m93_ok : ∀ (g : Int → Int → Int) (ln : Int → Int) (kf : Int → Nat) (ρ : List Int) (a i x : Int), sv_BOk ρ q_m93.2.1 → (∀ f ∈ q_m93.2.2.1, sv_FQk q_Ks q_Q g ln kf ρ f) → sv_nth ρ 0 = some a → sv_nth ρ 1 = some i → sv_nth ρ 2 = some x → 0 ≤ a → 0 ≤ i → i < ln a → kf a = q_m93.1 → ∀ f ∈ q_m93.2.2.2, sv_FQk q_Ks q_Q (sv_put g a i x) ln kf ρ f := by
  intro g ln kf ρ a i x hb hf n0 n1 n2 p0 p1 p2 p3
  obtain ⟨hl, hb⟩ := hb
  obtain ⟨xso, r0, rfl, l0⟩ := sv_lens hl
  obtain ⟨xi, r1, rfl, l1⟩ := sv_lens l0
  obtain ⟨xx, r2, rfl, l2⟩ := sv_lens l1
  obtain ⟨xsf, r3, rfl, l3⟩ := sv_lens l2
  obtain ⟨xen, r4, rfl, l4⟩ := sv_lens l3
  obtain ⟨xlv, r5, rfl, l5⟩ := sv_lens l4
  obtain ⟨xlo, r6, rfl, l6⟩ := sv_lens l5
  obtain ⟨xcu, r7, rfl, l7⟩ := sv_lens l6
  obtain ⟨xns, r8, rfl, l8⟩ := sv_lens l7
  obtain ⟨xn, r9, rfl, l9⟩ := sv_lens l8
  obtain ⟨xt, r10, rfl, l10⟩ := sv_lens l9
  obtain ⟨xe, r11, rfl, l11⟩ := sv_lens l10
  obtain ⟨xN, r12, rfl, l12⟩ := sv_lens l11
  obtain ⟨xy, r13, rfl, l13⟩ := sv_lens l12
  obtain ⟨xM, r14, rfl, l14⟩ := sv_lens l13
  obtain ⟨xz, r15, rfl, l15⟩ := sv_lens l14
  obtain rfl := sv_len0 l15
  clear l0 l1 l2 l3 l4 l5 l6 l7 l8 l9 l10 l11 l12 l13 l14 l15 hl
  have bso : 0 ≤ xso := (hb 0 _ _ rfl rfl).1
  have bsf : 0 ≤ xsf := (hb 3 _ _ rfl rfl).1
  have ben : 0 ≤ xen := (hb 4 _ _ rfl rfl).1
  have blv : 0 ≤ xlv := (hb 5 _ _ rfl rfl).1
  have blo : 0 ≤ xlo := (hb 6 _ _ rfl rfl).1
  have bcu : 0 ≤ xcu := (hb 7 _ _ rfl rfl).1
  have bns : 0 ≤ xns := (hb 8 _ _ rfl rfl).1
  clear hb
  obtain rfl : xso = a := by simpa [sv_nth] using n0
  obtain rfl : xi = i := by simpa [sv_nth] using n1
  obtain rfl : xx = x := by simpa [sv_nth] using n2
  clear n0 n1 n2
  have p3 : kf xso = 97 := p3
  have h0 := hf _ (List.mem_of_getElem? (i := 0) rfl)
  simp [sv_FQk, sv_FQ, sv_evs, sv_ev, sv_evT, sv_nth, sv_adq, sv_gs, q_Ks_36, q_Q_36] at h0
  have h1 := hf _ (List.mem_of_getElem? (i := 1) rfl)
  simp [sv_FQk, sv_FQ, sv_evs, sv_ev, sv_evT, sv_nth, sv_adq, sv_gs] at h1
  have h2 := hf _ (List.mem_of_getElem? (i := 2) rfl)
  simp [sv_FQk, sv_FQ, sv_evs, sv_ev, sv_evT, sv_nth, sv_adq, sv_gs] at h2
  have h3 := hf _ (List.mem_of_getElem? (i := 3) rfl)
  simp [sv_FQk, sv_FQ, sv_evs, sv_ev, sv_evT, sv_nth, sv_adq, sv_gs] at h3
  have h4 := hf _ (List.mem_of_getElem? (i := 4) rfl)
  simp [sv_FQk, sv_FQ, sv_evs, sv_ev, sv_evT, sv_nth, sv_adq, sv_gs] at h4
  have h5 := hf _ (List.mem_of_getElem? (i := 5) rfl)
  simp [sv_FQk, sv_FQ, sv_evs, sv_ev, sv_evT, sv_nth, sv_adq, sv_gs] at h5
  have h6 := hf _ (List.mem_of_getElem? (i := 6) rfl)
  simp [sv_FQk, sv_FQ, sv_evs, sv_ev, sv_evT, sv_nth, sv_adq, sv_gs] at h6
  have h7 := hf _ (List.mem_of_getElem? (i := 7) rfl)
  simp [sv_FQk, sv_FQ, sv_evs, sv_ev, sv_evT, sv_nth, sv_adq, sv_gs] at h7
  have h8 := hf _ (List.mem_of_getElem? (i := 8) rfl)
  simp [sv_FQk, sv_FQ, sv_evs, sv_ev, sv_evT, sv_nth, sv_adq, sv_gs] at h8
  have h9 := hf _ (List.mem_of_getElem? (i := 9) rfl)
  simp [sv_FQk, sv_FQ, sv_evs, sv_ev, sv_evT, sv_nth, sv_adq, sv_gs] at h9
  have h10 := hf _ (List.mem_of_getElem? (i := 10) rfl)
  simp [sv_FQk, sv_FQ, sv_evs, sv_ev, sv_evT, sv_nth, sv_adq, sv_gs] at h10
  have h11 := hf _ (List.mem_of_getElem? (i := 11) rfl)
  simp [sv_FQk, sv_FQ, sv_evs, sv_ev, sv_evT, sv_nth, sv_adq, sv_gs] at h11
  have h12 := hf _ (List.mem_of_getElem? (i := 12) rfl)
  simp [sv_FQk, sv_FQ, sv_evs, sv_ev, sv_evT, sv_nth, sv_adq, sv_gs] at h12
  have h13 := hf _ (List.mem_of_getElem? (i := 13) rfl)
  simp [sv_FQk, sv_FQ, sv_evs, sv_ev, sv_evT, sv_nth, sv_adq, sv_gs] at h13
  have h14 := hf _ (List.mem_of_getElem? (i := 14) rfl)
  simp [sv_FQk, sv_FQ, sv_evs, sv_ev, sv_evT, sv_nth, sv_adq, sv_gs] at h14
  have h15 := hf _ (List.mem_of_getElem? (i := 15) rfl)
  simp [sv_FQk, sv_FQ, sv_evs, sv_ev, sv_evT, sv_nth, sv_adq, sv_gs] at h15
  clear hf
  obtain ⟨⟨⟨-, Kso⟩, ⟨-, Ksf⟩, ⟨-, Ken⟩, ⟨-, Klv⟩, ⟨-, Klo⟩, ⟨-, Kcu⟩, ⟨-, Kns⟩⟩, h0⟩ := h0
  rw [sv_Qsrc_iff] at h0
  replace h4 := h4 ben (by omega) (by have := h5 ben; omega)
  replace h7 := h7 bsf (by omega) (by have := h8 bsf; omega)
  replace h10 := h10 ben (by omega) (by have := h5 ben; omega)
  have esf : sv_put g xso xi xx xsf = g xsf := sv_put_ne (sv_kf_ne Ksf p3 (by decide))
  have een : sv_put g xso xi xx xen = g xen := sv_put_ne (sv_kf_ne Ken p3 (by decide))
  have elv : sv_put g xso xi xx xlv = g xlv := sv_put_ne (sv_kf_ne Klv p3 (by decide))
  have elo : sv_put g xso xi xx xlo = g xlo := sv_put_ne (sv_kf_ne Klo p3 (by decide))
  have ecu : sv_put g xso xi xx xcu = g xcu := sv_put_ne (sv_kf_ne Kcu p3 (by decide))
  have ens : sv_put g xso xi xx xns = g xns := sv_put_ne (sv_kf_ne Kns p3 (by decide))
  intro f hf
  have hf : f ∈ [(52, [], [(0, [(0, 1)]), (0, [(3, 1)]), (0, [(4, 1)]), (0, [(5, 1)]), (0, [(6, 1)]), (0, [(7, 1)]), (0, [(8, 1)]), (0, [(9, 1)])])] := hf
  simp only [List.mem_cons, List.not_mem_nil, or_false] at hf
  subst hf
  · simp [sv_FQk, sv_FQ, sv_evs, sv_ev, sv_evT, sv_nth, sv_adq, sv_gs, q_Ks_36, q_Q_36]
    refine ⟨⟨⟨bso, Kso⟩, ⟨bsf, Ksf⟩, ⟨ben, Ken⟩, ⟨blv, Klv⟩, ⟨blo, Klo⟩, ⟨bcu, Kcu⟩, ⟨bns, Kns⟩⟩, ?_⟩
    rw [sv_Qsrc_iff]
    simp only [sv_put_eq, esf, een, elv, elo, ecu, ens]
    intro t k t1 t2 k1 k2 k3
    by_cases c : 150 * t + k = xi
    · right
      have et : t = xt := by omega
      have u1 : g xsf (150 * t + k) = xy := sv_fat (by omega) h7
      have u2 : g xen (150 * t + k) = xe := sv_fat (by omega) h4
      have u3 : g xen (150 * t + xx) = xz := sv_fat (by omega) h10
      rw [if_pos c, u1, u2, u3]
      omega
    · rw [if_neg c]
      exact h0 t k t1 t2 k1 k2 k3
-- src_y
def q_m94 : Nat × SvM := (98, ([(0, none), (-1180591620717411303424, none), (-1180591620717411303424, none), (0, none), (0, none), (0, none), (0, none), (0, none), (0, none), (-1180591620717411303424, none), (-1180591620717411303424, none), (-1180591620717411303424, none), (-1180591620717411303424, none), (-1180591620717411303424, none), (-1180591620717411303424, none), (-1180591620717411303424, none)], [(52, [], [(0, [(3, 1)]), (0, [(0, 1)]), (0, [(4, 1)]), (0, [(5, 1)]), (0, [(6, 1)]), (0, [(7, 1)]), (0, [(8, 1)]), (0, [(9, 1)])]), (0, [], [(0, [(10, 1)])]), (0, [], [(0, [(1, 1), (10, -150)])]), (0, [], [(149, [(1, -1), (10, 150)])]), (4, [84, 1], [(0, [(4, 1)]), (0, [(1, 1)]), (0, [(11, 1)])]), (2, [], [(0, [(4, 1)]), (0, [(12, 1)])]), (0, [], [(-1, [(1, -1), (12, 1)])]), (4, [97, 1], [(0, [(3, 1)]), (0, [(1, 1)]), (0, [(13, 1)])]), (2, [], [(0, [(3, 1)]), (0, [(14, 1)])]), (0, [], [(-1, [(1, -1), (14, 1)])]), (4, [84, 1], [(0, [(4, 1)]), (0, [(10, 150), (13, 1)]), (0, [(15, 1)])]), (0, [], [(-1, [(1, 1), (10, -150), (13, -1)])]), (0, [], [(0, [(13, 1)])]), (0, [], [(0, [(2, 1)])]), (0, [], [(0, [(2, -1), (11, -1), (15, 1)])]), (0, [], [(16384, [(2, -1), (11, -1)])])], [(52, [], [(0, [(3, 1)]), (0, [(0, 1)]), (0, [(4, 1)]), (0, [(5, 1)]), (0, [(6, 1)]), (0, [(7, 1)]), (0, [(8, 1)]), (0, [(9, 1)])])]))
theorem q_m94_ok : ∀ (g : Int → Int → Int) (ln : Int → Int) (kf : Int → Nat) (ρ : List Int) (a i x : Int), sv_BOk ρ q_m94.2.1 → (∀ f ∈ q_m94.2.2.1, sv_FQk q_Ks q_Q g ln kf ρ f) → sv_nth ρ 0 = some a → sv_nth ρ 1 = some i → sv_nth ρ 2 = some x → 0 ≤ a → 0 ≤ i → i < ln a → kf a = q_m94.1 → ∀ f ∈ q_m94.2.2.2, sv_FQk q_Ks q_Q (sv_put g a i x) ln kf ρ f := by
  intro g ln kf ρ a i x hb hf n0 n1 n2 p0 p1 p2 p3
  obtain ⟨hl, hb⟩ := hb
  obtain ⟨xsf, r0, rfl, l0⟩ := sv_lens hl
  obtain ⟨xi, r1, rfl, l1⟩ := sv_lens l0
  obtain ⟨xx, r2, rfl, l2⟩ := sv_lens l1
  obtain ⟨xso, r3, rfl, l3⟩ := sv_lens l2
  obtain ⟨xen, r4, rfl, l4⟩ := sv_lens l3
  obtain ⟨xlv, r5, rfl, l5⟩ := sv_lens l4
  obtain ⟨xlo, r6, rfl, l6⟩ := sv_lens l5
  obtain ⟨xcu, r7, rfl, l7⟩ := sv_lens l6
  obtain ⟨xns, r8, rfl, l8⟩ := sv_lens l7
  obtain ⟨xn, r9, rfl, l9⟩ := sv_lens l8
  obtain ⟨xt, r10, rfl, l10⟩ := sv_lens l9
  obtain ⟨xe, r11, rfl, l11⟩ := sv_lens l10
  obtain ⟨xN, r12, rfl, l12⟩ := sv_lens l11
  obtain ⟨xy, r13, rfl, l13⟩ := sv_lens l12
  obtain ⟨xM, r14, rfl, l14⟩ := sv_lens l13
  obtain ⟨xz, r15, rfl, l15⟩ := sv_lens l14
  obtain rfl := sv_len0 l15
  clear l0 l1 l2 l3 l4 l5 l6 l7 l8 l9 l10 l11 l12 l13 l14 l15 hl
  have bsf : 0 ≤ xsf := (hb 0 _ _ rfl rfl).1
  have bso : 0 ≤ xso := (hb 3 _ _ rfl rfl).1
  have ben : 0 ≤ xen := (hb 4 _ _ rfl rfl).1
  have blv : 0 ≤ xlv := (hb 5 _ _ rfl rfl).1
  have blo : 0 ≤ xlo := (hb 6 _ _ rfl rfl).1
  have bcu : 0 ≤ xcu := (hb 7 _ _ rfl rfl).1
  have bns : 0 ≤ xns := (hb 8 _ _ rfl rfl).1
  clear hb
  obtain rfl : xsf = a := by simpa [sv_nth] using n0
  obtain rfl : xi = i := by simpa [sv_nth] using n1
  obtain rfl : xx = x := by simpa [sv_nth] using n2
  clear n0 n1 n2
  have p3 : kf xsf = 98 := p3
  have h0 := hf _ (List.mem_of_getElem? (i := 0) rfl)
  simp [sv_FQk, sv_FQ, sv_evs, sv_ev, sv_evT, sv_nth, sv_adq, sv_gs, q_Ks_36, q_Q_36] at h0
  have h1 := hf _ (List.mem_of_getElem? (i := 1) rfl)
  simp [sv_FQk, sv_FQ, sv_evs, sv_ev, sv_evT, sv_nth, sv_adq, sv_gs] at h1
  have h2 := hf _ (List.mem_of_getElem? (i := 2) rfl)
  simp [sv_FQk, sv_FQ, sv_evs, sv_ev, sv_evT, sv_nth, sv_adq, sv_gs] at h2
  have h3 := hf _ (List.mem_of_getElem? (i := 3) rfl)
  simp [sv_FQk, sv_FQ, sv_evs, sv_ev, sv_evT, sv_nth, sv_adq, sv_gs] at h3
  have h4 := hf _ (List.mem_of_getElem? (i := 4) rfl)
  simp [sv_FQk, sv_FQ, sv_evs, sv_ev, sv_evT, sv_nth, sv_adq, sv_gs] at h4
  have h5 := hf _ (List.mem_of_getElem? (i := 5) rfl)
  simp [sv_FQk, sv_FQ, sv_evs, sv_ev, sv_evT, sv_nth, sv_adq, sv_gs] at h5
  have h6 := hf _ (List.mem_of_getElem? (i := 6) rfl)
  simp [sv_FQk, sv_FQ, sv_evs, sv_ev, sv_evT, sv_nth, sv_adq, sv_gs] at h6
  have h7 := hf _ (List.mem_of_getElem? (i := 7) rfl)
  simp [sv_FQk, sv_FQ, sv_evs, sv_ev, sv_evT, sv_nth, sv_adq, sv_gs] at h7
  have h8 := hf _ (List.mem_of_getElem? (i := 8) rfl)
  simp [sv_FQk, sv_FQ, sv_evs, sv_ev, sv_evT, sv_nth, sv_adq, sv_gs] at h8
  have h9 := hf _ (List.mem_of_getElem? (i := 9) rfl)
  simp [sv_FQk, sv_FQ, sv_evs, sv_ev, sv_evT, sv_nth, sv_adq, sv_gs] at h9
  have h10 := hf _ (List.mem_of_getElem? (i := 10) rfl)
  simp [sv_FQk, sv_FQ, sv_evs, sv_ev, sv_evT, sv_nth, sv_adq, sv_gs] at h10
  have h11 := hf _ (List.mem_of_getElem? (i := 11) rfl)
  simp [sv_FQk, sv_FQ, sv_evs, sv_ev, sv_evT, sv_nth, sv_adq, sv_gs] at h11
  have h12 := hf _ (List.mem_of_getElem? (i := 12) rfl)
  simp [sv_FQk, sv_FQ, sv_evs, sv_ev, sv_evT, sv_nth, sv_adq, sv_gs] at h12
  have h13 := hf _ (List.mem_of_getElem? (i := 13) rfl)
  simp [sv_FQk, sv_FQ, sv_evs, sv_ev, sv_evT, sv_nth, sv_adq, sv_gs] at h13
  have h14 := hf _ (List.mem_of_getElem? (i := 14) rfl)
  simp [sv_FQk, sv_FQ, sv_evs, sv_ev, sv_evT, sv_nth, sv_adq, sv_gs] at h14
  have h15 := hf _ (List.mem_of_getElem? (i := 15) rfl)
  simp [sv_FQk, sv_FQ, sv_evs, sv_ev, sv_evT, sv_nth, sv_adq, sv_gs] at h15
  clear hf
  obtain ⟨⟨⟨-, Kso⟩, ⟨-, Ksf⟩, ⟨-, Ken⟩, ⟨-, Klv⟩, ⟨-, Klo⟩, ⟨-, Kcu⟩, ⟨-, Kns⟩⟩, h0⟩ := h0
  rw [sv_Qsrc_iff] at h0
  replace h4 := h4 ben (by omega) (by have := h5 ben; omega)
  replace h7 := h7 bso (by omega) (by have := h8 bso; omega)
  replace h10 := h10 ben (by omega) (by have := h5 ben; omega)
  have eso : sv_put g xsf xi xx xso = g xso := sv_put_ne (sv_kf_ne Kso p3 (by decide))
  have een : sv_put g xsf xi xx xen = g xen := sv_put_ne (sv_kf_ne Ken p3 (by decide))
  have elv : sv_put g xsf xi xx xlv = g xlv := sv_put_ne (sv_kf_ne Klv p3 (by decide))
  have elo : sv_put g xsf xi xx xlo = g xlo := sv_put_ne (sv_kf_ne Klo p3 (by decide))
  have ecu : sv_put g xsf xi xx xcu = g xcu := sv_put_ne (sv_kf_ne Kcu p3 (by decide))
  have ens : sv_put g xsf xi xx xns = g xns := sv_put_ne (sv_kf_ne Kns p3 (by decide))
  intro f hf
  have hf : f ∈ [(52, [], [(0, [(3, 1)]), (0, [(0, 1)]), (0, [(4, 1)]), (0, [(5, 1)]), (0, [(6, 1)]), (0, [(7, 1)]), (0, [(8, 1)]), (0, [(9, 1)])])] := hf
  simp only [List.mem_cons, List.not_mem_nil, or_false] at hf
  subst hf
  · simp [sv_FQk, sv_FQ, sv_evs, sv_ev, sv_evT, sv_nth, sv_adq, sv_gs, q_Ks_36, q_Q_36]
    refine ⟨⟨⟨bso, Kso⟩, ⟨bsf, Ksf⟩, ⟨ben, Ken⟩, ⟨blv, Klv⟩, ⟨blo, Klo⟩, ⟨bcu, Kcu⟩, ⟨bns, Kns⟩⟩, ?_⟩
    rw [sv_Qsrc_iff]
    simp only [sv_put_eq, eso, een, elv, elo, ecu, ens]
    intro t k t1 t2 k1 k2 k3
    by_cases c : 150 * t + k = xi
    · right
      have et : t = xt := by omega
      have u1 : g xso (150 * t + k) = xy := sv_fat (by omega) h7
      have u2 : g xen (150 * t + k) = xe := sv_fat (by omega) h4
      have u3 : g xen (150 * t + xy) = xz := sv_fat (by omega) h10
      rw [if_pos c, u1, u2, u3]
      omega
    · rw [if_neg c]
      exact h0 t k t1 t2 k1 k2 k3
-- sn_s
def q_m95 : Nat × SvM := (97, ([(0, none), (-1180591620717411303424, none), (-1180591620717411303424, none), (0, none), (0, none), (0, none), (0, none), (-1180591620717411303424, none)], [(53, [], [(0, [(0, 1)]), (0, [(3, 1)]), (0, [(4, 1)]), (0, [(5, 1)]), (0, [(6, 1)]), (0, [(7, 1)])]), (0, [], [(-1, [(2, -1)])]), (0, [], [(1, [(2, 1)])])], [(53, [], [(0, [(0, 1)]), (0, [(3, 1)]), (0, [(4, 1)]), (0, [(5, 1)]), (0, [(6, 1)]), (0, [(7, 1)])])]))
theorem q_m95_ok : ∀ (g : Int → Int → Int) (ln : Int → Int) (kf : Int → Nat) (ρ : List Int) (a i x : Int), sv_BOk ρ q_m95.2.1 → (∀ f ∈ q_m95.2.2.1, sv_FQk q_Ks q_Q g ln kf ρ f) → sv_nth ρ 0 = some a → sv_nth ρ 1 = some i → sv_nth ρ 2 = some x → 0 ≤ a → 0 ≤ i → i < ln a → kf a = q_m95.1 → ∀ f ∈ q_m95.2.2.2, sv_FQk q_Ks q_Q (sv_put g a i x) ln kf ρ f := by
  intro g ln kf ρ a i x hb hf n0 n1 n2 p0 p1 p2 p3
  obtain ⟨hl, hb⟩ := hb
  obtain ⟨xso, r0, rfl, l0⟩ := sv_lens hl
  obtain ⟨xi, r1, rfl, l1⟩ := sv_lens l0
  obtain ⟨xx, r2, rfl, l2⟩ := sv_lens l1
  obtain ⟨xlv, r3, rfl, l3⟩ := sv_lens l2
  obtain ⟨xlo, r4, rfl, l4⟩ := sv_lens l3
  obtain ⟨xcu, r5, rfl, l5⟩ := sv_lens l4
  obtain ⟨xns, r6, rfl, l6⟩ := sv_lens l5
  obtain ⟨xt, r7, rfl, l7⟩ := sv_lens l6
  obtain rfl := sv_len0 l7
  clear l0 l1 l2 l3 l4 l5 l6 l7 hl
  have bso : 0 ≤ xso := (hb 0 _ _ rfl rfl).1
  have blv : 0 ≤ xlv := (hb 3 _ _ rfl rfl).1
  have blo : 0 ≤ xlo := (hb 4 _ _ rfl rfl).1
  have bcu : 0 ≤ xcu := (hb 5 _ _ rfl rfl).1
  have bns : 0 ≤ xns := (hb 6 _ _ rfl rfl).1
  clear hb
  obtain rfl : xso = a := by simpa [sv_nth] using n0
  obtain rfl : xi = i := by simpa [sv_nth] using n1
  obtain rfl : xx = x := by simpa [sv_nth] using n2
  clear n0 n1 n2
  have p3 : kf xso = 97 := p3
  have h0 := hf _ (List.mem_of_getElem? (i := 0) rfl)
  simp [sv_FQk, sv_FQ, sv_evs, sv_ev, sv_evT, sv_nth, sv_adq, sv_gs, q_Ks_37, q_Q_37] at h0
  have h1 := hf _ (List.mem_of_getElem? (i := 1) rfl)
  simp [sv_FQk, sv_FQ, sv_evs, sv_ev, sv_evT, sv_nth, sv_adq, sv_gs] at h1
  have h2 := hf _ (List.mem_of_getElem? (i := 2) rfl)
  simp [sv_FQk, sv_FQ, sv_evs, sv_ev, sv_evT, sv_nth, sv_adq, sv_gs] at h2
  clear hf
  obtain ⟨⟨⟨-, Kso⟩, ⟨-, Klv⟩, ⟨-, Klo⟩, ⟨-, Kcu⟩, ⟨-, Kns⟩⟩, h0⟩ := h0
  rw [sv_Qsn_iff] at h0
  have elv : sv_put g xso xi xx xlv = g xlv := sv_put_ne (sv_kf_ne Klv p3 (by decide))
  have elo : sv_put g xso xi xx xlo = g xlo := sv_put_ne (sv_kf_ne Klo p3 (by decide))
  have ecu : sv_put g xso xi xx xcu = g xcu := sv_put_ne (sv_kf_ne Kcu p3 (by decide))
  have ens : sv_put g xso xi xx xns = g xns := sv_put_ne (sv_kf_ne Kns p3 (by decide))
  intro f hf
  have hf : f ∈ [(53, [], [(0, [(0, 1)]), (0, [(3, 1)]), (0, [(4, 1)]), (0, [(5, 1)]), (0, [(6, 1)]), (0, [(7, 1)])])] := hf
  simp only [List.mem_cons, List.not_mem_nil, or_false] at hf
  subst hf
  · simp [sv_FQk, sv_FQ, sv_evs, sv_ev, sv_evT, sv_nth, sv_adq, sv_gs, q_Ks_37, q_Q_37]
    refine ⟨⟨⟨bso, Kso⟩, ⟨blv, Klv⟩, ⟨blo, Klo⟩, ⟨bcu, Kcu⟩, ⟨bns, Kns⟩⟩, ?_⟩
    rw [sv_Qsn_iff]
    simp only [sv_put_eq, elv, elo, ecu, ens]
    intro k k1 k2
    by_cases e : 150 * xt + k = xi
    · rw [if_pos e]
      omega
    · rw [if_neg e]
      exact h0 k k1 k2
-- sn_alv
def q_m96 : Nat × SvM := (75, ([(0, none), (-1180591620717411303424, none), (-1180591620717411303424, none), (0, none), (0, none), (0, none), (0, none), (-1180591620717411303424, none), (-1180591620717411303424, none), (-1180591620717411303424, none), (-1180591620717411303424, none), (-1180591620717411303424, none), (-1180591620717411303424, none), (-1180591620717411303424, none), (-1180591620717411303424, none), (-1180591620717411303424, none), (-1180591620717411303424, none), (-1180591620717411303424, none)], [(53, [], [(0, [(3, 1)]), (0, [(0, 1)]), (0, [(4, 1)]), (0, [(5, 1)]), (0, [(6, 1)]), (0, [(7, 1)])]), (4, [75, 1], [(0, [(0, 1)]), (0, [(1, 1)]), (0, [(10, 1)])]), (2, [], [(0, [(0, 1)]), (0, [(11, 1)])]), (0, [], [(-1, [(1, -1), (11, 1)])]), (4, [76, 1], [(0, [(4, 1)]), (0, [(1, 1)]), (0, [(12, 1)])]), (2, [], [(0, [(4, 1)]), (0, [(13, 1)])]), (0, [], [(-1, [(1, -1), (13, 1)])]), (4, [77, 1], [(0, [(5, 1)]), (0, [(1, 1)]), (0, [(14, 1)])]), (2, [], [(0, [(5, 1)]), (0, [(15, 1)])]), (0, [], [(-1, [(1, -1), (15, 1)])]), (4, [78, 1], [(0, [(6, 1)]), (0, [(1, 1)]), (0, [(16, 1)])]), (2, [], [(0, [(6, 1)]), (0, [(17, 1)])]), (0, [], [(-1, [(1, -1), (17, 1)])]), (0, [], [(1, [(2, -1), (10, 1)])]), (0, [], [(-1, [(2, 1), (10, -1)])]), (0, [], [(0, [(1, 1)])]), (0, [], [(0, [(1, 1), (7, -1)])]), (0, [], [(0, [(1, -1), (7, 1)])]), (4, [97, 1], [(0, [(3, 1)]), (0, [(1, 150), (10, 1), (12, 1), (14, 1), (16, 1)]), (0, [(8, 1)])]), (2, [], [(0, [(3, 1)]), (0, [(9, 1)])]), (0, [], [(-1, [(1, -150), (9, 1), (10, -1), (12, -1), (14, -1), (16, -1)])]), (0, [], [(0, [(10, 1), (12, 1), (14, 1), (16, 1)])]), (0, [], [(-1, [(8, -1)])]), (0, [], [(1, [(8, 1)])])], [(53, [], [(0, [(3, 1)]), (0, [(0, 1)]), (0, [(4, 1)]), (0, [(5, 1)]), (0, [(6, 1)]), (0, [(7, 1)])])]))
theorem q_m96_ok : ∀ (g : Int → Int → Int) (ln : Int → Int) (kf : Int → Nat) (ρ : List Int) (a i x : Int), sv_BOk ρ q_m96.2.1 → (∀ f ∈ q_m96.2.2.1, sv_FQk q_Ks q_Q g ln kf ρ f) → sv_nth ρ 0 = some a → sv_nth ρ 1 = some i → sv_nth ρ 2 = some x → 0 ≤ a → 0 ≤ i → i < ln a → kf a = q_m96.1 → ∀ f ∈ q_m96.2.2.2, sv_FQk q_Ks q_Q (sv_put g a i x) ln kf ρ f := by
  intro g ln kf ρ a i x hb hf n0 n1 n2 p0 p1 p2 p3
  obtain ⟨hl, hb⟩ := hb
  obtain ⟨xlv, r0, rfl, l0⟩ := sv_lens hl
  obtain ⟨xi, r1, rfl, l1⟩ := sv_lens l0
  obtain ⟨xx, r2, rfl, l2⟩ := sv_lens l1
  obtain ⟨xso, r3, rfl, l3⟩ := sv_lens l2
  obtain ⟨xlo, r4, rfl, l4⟩ := sv_lens l3
  obtain ⟨xcu, r5, rfl, l5⟩ := sv_lens l4
  obtain ⟨xns, r6, rfl, l6⟩ := sv_lens l5
  obtain ⟨xt, r7, rfl, l7⟩ := sv_lens l6
  obtain ⟨xg, r8, rfl, l8⟩ := sv_lens l7
  obtain ⟨xN, r9, rfl, l9⟩ := sv_lens l8
  obtain ⟨xy1, r10, rfl, l10⟩ := sv_lens l9
  obtain ⟨xM1, r11, rfl, l11⟩ := sv_lens l10
  obtain ⟨xy2, r12, rfl, l12⟩ := sv_lens l11
  obtain ⟨xM2, r13, rfl, l13⟩ := sv_lens l12
  obtain ⟨xy3, r14, rfl, l14⟩ := sv_lens l13
  obtain ⟨xM3, r15, rfl, l15⟩ := sv_lens l14
  obtain ⟨xy4, r16, rfl, l16⟩ := sv_lens l15
  obtain ⟨xM4, r17, rfl, l17⟩ := sv_lens l16
  obtain rfl := sv_len0 l17
  clear l0 l1 l2 l3 l4 l5 l6 l7 l8 l9 l10 l11 l12 l13 l14 l15 l16 l17 hl
  have blv : 0 ≤ xlv := (hb 0 _ _ rfl rfl).1
  have bso : 0 ≤ xso := (hb 3 _ _ rfl rfl).1
  have blo : 0 ≤ xlo := (hb 4 _ _ rfl rfl).1
  have bcu : 0 ≤ xcu := (hb 5 _ _ rfl rfl).1
  have bns : 0 ≤ xns := (hb 6 _ _ rfl rfl).1
  clear hb
  obtain rfl : xlv = a := by simpa [sv_nth] using n0
  obtain rfl : xi = i := by simpa [sv_nth] using n1
  obtain rfl : xx = x := by simpa [sv_nth] using n2
  clear n0 n1 n2
  have p3 : kf xlv = 75 := p3
  have h0 := hf _ (List.mem_of_getElem? (i := 0) rfl)
  simp [sv_FQk, sv_FQ, sv_evs, sv_ev, sv_evT, sv_nth, sv_adq, sv_gs, q_Ks_37, q_Q_37] at h0
  have h1 := hf _ (List.mem_of_getElem? (i := 1) rfl)
  simp [sv_FQk, sv_FQ, sv_evs, sv_ev, sv_evT, sv_nth, sv_adq, sv_gs] at h1
  have h2 := hf _ (List.mem_of_getElem? (i := 2) rfl)
  simp [sv_FQk, sv_FQ, sv_evs, sv_ev, sv_evT, sv_nth, sv_adq, sv_gs] at h2
  have h3 := hf _ (List.mem_of_getElem? (i := 3) rfl)
  simp [sv_FQk, sv_FQ, sv_evs, sv_ev, sv_evT, sv_nth, sv_adq, sv_gs] at h3
  have h4 := hf _ (List.mem_of_getElem? (i := 4) rfl)
  simp [sv_FQk, sv_FQ, sv_evs, sv_ev, sv_evT, sv_nth, sv_adq, sv_gs] at h4
  have h5 := hf _ (List.mem_of_getElem? (i := 5) rfl)
  simp [sv_FQk, sv_FQ, sv_evs, sv_ev, sv_evT, sv_nth, sv_adq, sv_gs] at h5
  have h6 := hf _ (List.mem_of_getElem? (i := 6) rfl)
  simp [sv_FQk, sv_FQ, sv_evs, sv_ev, sv_evT, sv_nth, sv_adq, sv_gs] at h6
  have h7 := hf _ (List.mem_of_getElem? (i := 7) rfl)
  simp [sv_FQk, sv_FQ, sv_evs, sv_ev, sv_evT, sv_nth, sv_adq, sv_gs] at h7
  have h8 := hf _ (List.mem_of_getElem? (i := 8) rfl)
  simp [sv_FQk, sv_FQ, sv_evs, sv_ev, sv_evT, sv_nth, sv_adq, sv_gs] at h8
  have h9 := hf _ (List.mem_of_getElem? (i := 9) rfl)
  simp [sv_FQk, sv_FQ, sv_evs, sv_ev, sv_evT, sv_nth, sv_adq, sv_gs] at h9
  have h10 := hf _ (List.mem_of_getElem? (i := 10) rfl)
  simp [sv_FQk, sv_FQ, sv_evs, sv_ev, sv_evT, sv_nth, sv_adq, sv_gs] at h10
  have h11 := hf _ (List.mem_of_getElem? (i := 11) rfl)
  simp [sv_FQk, sv_FQ, sv_evs, sv_ev, sv_evT, sv_nth, sv_adq, sv_gs] at h11
  have h12 := hf _ (List.mem_of_getElem? (i := 12) rfl)
  simp [sv_FQk, sv_FQ, sv_evs, sv_ev, sv_evT, sv_nth, sv_adq, sv_gs] at h12
  have h13 := hf _ (List.mem_of_getElem? (i := 13) rfl)
  simp [sv_FQk, sv_FQ, sv_evs, sv_ev, sv_evT, sv_nth, sv_adq, sv_gs] at h13
  have h14 := hf _ (List.mem_of_getElem? (i := 14) rfl)
  simp [sv_FQk, sv_FQ, sv_evs, sv_ev, sv_evT, sv_nth, sv_adq, sv_gs] at h14
  have h15 := hf _ (List.mem_of_getElem? (i := 15) rfl)
  simp [sv_FQk, sv_FQ, sv_evs, sv_ev, sv_evT, sv_nth, sv_adq, sv_gs] at h15
  have h16 := hf _ (List.mem_of_getElem? (i := 16) rfl)
  simp [sv_FQk, sv_FQ, sv_evs, sv_ev, sv_evT, sv_nth, sv_adq, sv_gs] at h16
  have h17 := hf _ (List.mem_of_getElem? (i := 17) rfl)
  simp [sv_FQk, sv_FQ, sv_evs, sv_ev, sv_evT, sv_nth, sv_adq, sv_gs] at h17
  have h18 := hf _ (List.mem_of_getElem? (i := 18) rfl)
  simp [sv_FQk, sv_FQ, sv_evs, sv_ev, sv_evT, sv_nth, sv_adq, sv_gs] at h18
  have h19 := hf _ (List.mem_of_getElem? (i := 19) rfl)
  simp [sv_FQk, sv_FQ, sv_evs, sv_ev, sv_evT, sv_nth, sv_adq, sv_gs] at h19
  have h20 := hf _ (List.mem_of_getElem? (i := 20) rfl)
  simp [sv_FQk, sv_FQ, sv_evs, sv_ev, sv_evT, sv_nth, sv_adq, sv_gs] at h20
  have h21 := hf _ (List.mem_of_getElem? (i := 21) rfl)
  simp [sv_FQk, sv_FQ, sv_evs, sv_ev, sv_evT, sv_nth, sv_adq, sv_gs] at h21
  have h22 := hf _ (List.mem_of_getElem? (i := 22) rfl)
  simp [sv_FQk, sv_FQ, sv_evs, sv_ev, sv_evT, sv_nth, sv_adq, sv_gs] at h22
  have h23 := hf _ (List.mem_of_getElem? (i := 23) rfl)
  simp [sv_FQk, sv_FQ, sv_evs, sv_ev, sv_evT, sv_nth, sv_adq, sv_gs] at h23
  clear hf
  obtain ⟨⟨⟨-, Kso⟩, ⟨-, Klv⟩, ⟨-, Klo⟩, ⟨-, Kcu⟩, ⟨-, Kns⟩⟩, h0⟩ := h0
  rw [sv_Qsn_iff] at h0
  replace h1 := h1 blv (by omega) (by have := h2 blv; omega)
  replace h4 := h4 blo (by omega) (by have := h5 blo; omega)
  replace h7 := h7 bcu (by omega) (by have := h8 bcu; omega)
  replace h10 := h10 bns (by omega) (by have := h11 bns; omega)
  replace h18 := h18 bso (by omega) (by have := h19 bso; omega)
  have eso : sv_put g xlv xi xx xso = g xso := sv_put_ne (sv_kf_ne Kso p3 (by decide))
  have elo : sv_put g xlv xi xx xlo = g xlo := sv_put_ne (sv_kf_ne Klo p3 (by decide))
  have ecu : sv_put g xlv xi xx xcu = g xcu := sv_put_ne (sv_kf_ne Kcu p3 (by decide))
  have ens : sv_put g xlv xi xx xns = g xns := sv_put_ne (sv_kf_ne Kns p3 (by decide))
  intro f hf
  have hf : f ∈ [(53, [], [(0, [(3, 1)]), (0, [(0, 1)]), (0, [(4, 1)]), (0, [(5, 1)]), (0, [(6, 1)]), (0, [(7, 1)])])] := hf
  simp only [List.mem_cons, List.not_mem_nil, or_false] at hf
  subst hf
  · simp [sv_FQk, sv_FQ, sv_evs, sv_ev, sv_evT, sv_nth, sv_adq, sv_gs, q_Ks_37, q_Q_37]
    refine ⟨⟨⟨bso, Kso⟩, ⟨blv, Klv⟩, ⟨blo, Klo⟩, ⟨bcu, Kcu⟩, ⟨bns, Kns⟩⟩, ?_⟩
    rw [sv_Qsn_iff]
    simp only [sv_put_eq, eso, elo, ecu, ens]
    have et : xt = xi := by omega
    rw [et] at h0 ⊢
    intro k k1 k2
    rw [if_pos rfl] at k2
    by_cases e : k = xy1 + xy2 + xy3 + xy4
    · have u : g xso (150 * xi + k) = xg := sv_fat (by omega) h18
      omega
    · exact h0 k k1 (by omega)
-- sn_alo
def q_m97 : Nat × SvM := (76, ([(0, none), (-1180591620717411303424, none), (-1180591620717411303424, none), (0, none), (0, none), (0, none), (0, none), (-1180591620717411303424, none), (-1180591620717411303424, none), (-1180591620717411303424, none), (-1180591620717411303424, none), (-1180591620717411303424, none), (-1180591620717411303424, none), (-1180591620717411303424, none), (-1180591620717411303424, none), (-1180591620717411303424, none), (-1180591620717411303424, none), (-1180591620717411303424, none)], [(53, [], [(0, [(3, 1)]), (0, [(4, 1)]), (0, [(0, 1)]), (0, [(5, 1)]), (0, [(6, 1)]), (0, [(7, 1)])]), (4, [75, 1], [(0, [(4, 1)]), (0, [(1, 1)]), (0, [(10, 1)])]), (2, [], [(0, [(4, 1)]), (0, [(11, 1)])]), (0, [], [(-1, [(1, -1), (11, 1)])]), (4, [76, 1], [(0, [(0, 1)]), (0, [(1, 1)]), (0, [(12, 1)])]), (2, [], [(0, [(0, 1)]), (0, [(13, 1)])]), (0, [], [(-1, [(1, -1), (13, 1)])]), (4, [77, 1], [(0, [(5, 1)]), (0, [(1, 1)]), (0, [(14, 1)])]), (2, [], [(0, [(5, 1)]), (0, [(15, 1)])]), (0, [], [(-1, [(1, -1), (15, 1)])]), (4, [78, 1], [(0, [(6, 1)]), (0, [(1, 1)]), (0, [(16, 1)])]), (2, [], [(0, [(6, 1)]), (0, [(17, 1)])]), (0, [], [(-1, [(1, -1), (17, 1)])]), (0, [], [(1, [(2, -1), (12, 1)])]), (0, [], [(-1, [(2, 1), (12, -1)])]), (0, [], [(0, [(1, 1)])]), (0, [], [(0, [(1, 1), (7, -1)])]), (0, [], [(0, [(1, -1), (7, 1)])]), (4, [97, 1], [(0, [(3, 1)]), (0, [(1, 150), (10, 1), (12, 1), (14, 1), (16, 1)]), (0, [(8, 1)])]), (2, [], [(0, [(3, 1)]), (0, [(9, 1)])]), (0, [], [(-1, [(1, -150), (9, 1), (10, -1), (12, -1), (14, -1), (16, -1)])]), (0, [], [(0, [(10, 1), (12, 1), (14, 1), (16, 1)])]), (0, [], [(-1, [(8, -1)])]), (0, [], [(1, [(8, 1)])])], [(53, [], [(0, [(3, 1)]), (0, [(4, 1)]), (0, [(0, 1)]), (0, [(5, 1)]), (0, [(6, 1)]), (0, [(7, 1)])])]))
theorem q_m97_ok : ∀ (g : Int → Int → Int) (ln : Int → Int) (kf : Int → Nat) (ρ : List Int) (a i x : Int), sv_BOk ρ q_m97.2.1 → (∀ f ∈ q_m97.2.2.1, sv_FQk q_Ks q_Q g ln kf ρ f) → sv_nth ρ 0 = some a → sv_nth ρ 1 = some i → sv_nth ρ 2 = some x → 0 ≤ a → 0 ≤ i → i < ln a → kf a = q_m97.1 → ∀ f ∈ q_m97.2.2.2, sv_FQk q_Ks q_Q (sv_put g a i x) ln kf ρ f := by
  intro g ln kf ρ a i x hb hf n0 n1 n2 p0 p1 p2 p3
  obtain ⟨hl, hb⟩ := hb
  obtain ⟨xlo, r0, rfl, l0⟩ := sv_lens hl
  obtain ⟨xi, r1, rfl, l1⟩ := sv_lens l0
  obtain ⟨xx, r2, rfl, l2⟩ := sv_lens l1
  obtain ⟨xso, r3, rfl, l3⟩ := sv_lens l2
  obtain ⟨xlv, r4, rfl, l4⟩ := sv_lens l3
  obtain ⟨xcu, r5, rfl, l5⟩ := sv_lens l4
  obtain ⟨xns, r6, rfl, l6⟩ := sv_lens l5
  obtain ⟨xt, r7, rfl, l7⟩ := sv_lens l6
  obtain ⟨xg, r8, rfl, l8⟩ := sv_lens l7
  obtain ⟨xN, r9, rfl, l9⟩ := sv_lens l8
  obtain ⟨xy1, r10, rfl, l10⟩ := sv_lens l9
  obtain ⟨xM1, r11, rfl, l11⟩ := sv_lens l10
  obtain ⟨xy2, r12, rfl, l12⟩ := sv_lens l11
  obtain ⟨xM2, r13, rfl, l13⟩ := sv_lens l12
  obtain ⟨xy3, r14, rfl, l14⟩ := sv_lens l13
  obtain ⟨xM3, r15, rfl, l15⟩ := sv_lens l14
  obtain ⟨xy4, r16, rfl, l16⟩ := sv_lens l15
  obtain ⟨xM4, r17, rfl, l17⟩ := sv_lens l16
  obtain rfl := sv_len0 l17
  clear l0 l1 l2 l3 l4 l5 l6 l7 l8 l9 l10 l11 l12 l13 l14 l15 l16 l17 hl
  have blo : 0 ≤ xlo := (hb 0 _ _ rfl rfl).1
  have bso : 0 ≤ xso := (hb 3 _ _ rfl rfl).1
  have blv : 0 ≤ xlv := (hb 4 _ _ rfl rfl).1
  have bcu : 0 ≤ xcu := (hb 5 _ _ rfl rfl).1
  have bns : 0 ≤ xns := (hb 6 _ _ rfl rfl).1
  clear hb
  obtain rfl : xlo = a := by simpa [sv_nth] using n0
  obtain rfl : xi = i := by simpa [sv_nth] using n1
  obtain rfl : xx = x := by simpa [sv_nth] using n2
  clear n0 n1 n2
  have p3 : kf xlo = 76 := p3
  have h0 := hf _ (List.mem_of_getElem? (i := 0) rfl)
  simp [sv_FQk, sv_FQ, sv_evs, sv_ev, sv_evT, sv_nth, sv_adq, sv_gs, q_Ks_37, q_Q_37] at h0
  have h1 := hf _ (List.mem_of_getElem? (i := 1) rfl)
  simp [sv_FQk, sv_FQ, sv_evs, sv_ev, sv_evT, sv_nth, sv_adq, sv_gs] at h1
  have h2 := hf _ (List.mem_of_getElem? (i := 2) rfl)
  simp [sv_FQk, sv_FQ, sv_evs, sv_ev, sv_evT, sv_nth, sv_adq, sv_gs] at h2
  have h3 := hf _ (List.mem_of_getElem? (i := 3) rfl)
  simp [sv_FQk, sv_FQ, sv_evs, sv_ev, sv_evT, sv_nth, sv_adq, sv_gs] at h3
  have h4 := hf _ (List.mem_of_getElem? (i := 4) rfl)
  simp [sv_FQk, sv_FQ, sv_evs, sv_ev, sv_evT, sv_nth, sv_adq, sv_gs] at h4
  have h5 := hf _ (List.mem_of_getElem? (i := 5) rfl)
  simp [sv_FQk, sv_FQ, sv_evs, sv_ev, sv_evT, sv_nth, sv_adq, sv_gs] at h5
  have h6 := hf _ (List.mem_of_getElem? (i := 6) rfl)
  simp [sv_FQk, sv_FQ, sv_evs, sv_ev, sv_evT, sv_nth, sv_adq, sv_gs] at h6
  have h7 := hf _ (List.mem_of_getElem? (i := 7) rfl)
  simp [sv_FQk, sv_FQ, sv_evs, sv_ev, sv_evT, sv_nth, sv_adq, sv_gs] at h7
  have h8 := hf _ (List.mem_of_getElem? (i := 8) rfl)
  simp [sv_FQk, sv_FQ, sv_evs, sv_ev, sv_evT, sv_nth, sv_adq, sv_gs] at h8
  have h9 := hf _ (List.mem_of_getElem? (i := 9) rfl)
  simp [sv_FQk, sv_FQ, sv_evs, sv_ev, sv_evT, sv_nth, sv_adq, sv_gs] at h9
  have h10 := hf _ (List.mem_of_getElem? (i := 10) rfl)
  simp [sv_FQk, sv_FQ, sv_evs, sv_ev, sv_evT, sv_nth, sv_adq, sv_gs] at h10
  have h11 := hf _ (List.mem_of_getElem? (i := 11) rfl)
  simp [sv_FQk, sv_FQ, sv_evs, sv_ev, sv_evT, sv_nth, sv_adq, sv_gs] at h11
  have h12 := hf _ (List.mem_of_getElem? (i := 12) rfl)
  simp [sv_FQk, sv_FQ, sv_evs, sv_ev, sv_evT, sv_nth, sv_adq, sv_gs] at h12
  have h13 := hf _ (List.mem_of_getElem? (i := 13) rfl)
  simp [sv_FQk, sv_FQ, sv_evs, sv_ev, sv_evT, sv_nth, sv_adq, sv_gs] at h13
  have h14 := hf _ (List.mem_of_getElem? (i := 14) rfl)
  simp [sv_FQk, sv_FQ, sv_evs, sv_ev, sv_evT, sv_nth, sv_adq, sv_gs] at h14
  have h15 := hf _ (List.mem_of_getElem? (i := 15) rfl)
  simp [sv_FQk, sv_FQ, sv_evs, sv_ev, sv_evT, sv_nth, sv_adq, sv_gs] at h15
  have h16 := hf _ (List.mem_of_getElem? (i := 16) rfl)
  simp [sv_FQk, sv_FQ, sv_evs, sv_ev, sv_evT, sv_nth, sv_adq, sv_gs] at h16
  have h17 := hf _ (List.mem_of_getElem? (i := 17) rfl)
  simp [sv_FQk, sv_FQ, sv_evs, sv_ev, sv_evT, sv_nth, sv_adq, sv_gs] at h17
  have h18 := hf _ (List.mem_of_getElem? (i := 18) rfl)
  simp [sv_FQk, sv_FQ, sv_evs, sv_ev, sv_evT, sv_nth, sv_adq, sv_gs] at h18
  have h19 := hf _ (List.mem_of_getElem? (i := 19) rfl)
  simp [sv_FQk, sv_FQ, sv_evs, sv_ev, sv_evT, sv_nth, sv_adq, sv_gs] at h19
  have h20 := hf _ (List.mem_of_getElem? (i := 20) rfl)
  simp [sv_FQk, sv_FQ, sv_evs, sv_ev, sv_evT, sv_nth, sv_adq, sv_gs] at h20
  have h21 := hf _ (List.mem_of_getElem? (i := 21) rfl)
  simp [sv_FQk, sv_FQ, sv_evs, sv_ev, sv_evT, sv_nth, sv_adq, sv_gs] at h21
  have h22 := hf _ (List.mem_of_getElem? (i := 22) rfl)
  simp [sv_FQk, sv_FQ, sv_evs, sv_ev, sv_evT, sv_nth, sv_adq, sv_gs] at h22
  have h23 := hf _ (List.mem_of_getElem? (i := 23) rfl)
  simp [sv_FQk, sv_FQ, sv_evs, sv_ev, sv_evT, sv_nth, sv_adq, sv_gs] at h23
  clear hf
  obtain ⟨⟨⟨-, Kso⟩, ⟨-, Klv⟩, ⟨-, Klo⟩, ⟨-, Kcu⟩, ⟨-, Kns⟩⟩, h0⟩ := h0
  rw [sv_Qsn_iff] at h0
  replace h1 := h1 blv (by omega) (by have := h2 blv; omega)
  replace h4 := h4 blo (by omega) (by have := h5 blo; omega)
  replace h7 := h7 bcu (by omega) (by have := h8 bcu; omega)
  replace h10 := h10 bns (by omega) (by have := h11 bns; omega)
  replace h18 := h18 bso (by omega) (by have := h19 bso; omega)
  have eso : sv_put g xlo xi xx xso = g xso := sv_put_ne (sv_kf_ne Kso p3 (by decide))
  have elv : sv_put g xlo xi xx xlv = g xlv := sv_put_ne (sv_kf_ne Klv p3 (by decide))
  have ecu : sv_put g xlo xi xx xcu = g xcu := sv_put_ne (sv_kf_ne Kcu p3 (by decide))
  have ens : sv_put g xlo xi xx xns = g xns := sv_put_ne (sv_kf_ne Kns p3 (by decide))
  intro f hf
  have hf : f ∈ [(53, [], [(0, [(3, 1)]), (0, [(4, 1)]), (0, [(0, 1)]), (0, [(5, 1)]), (0, [(6, 1)]), (0, [(7, 1)])])] := hf
  simp only [List.mem_cons, List.not_mem_nil, or_false] at hf
  subst hf
  · simp [sv_FQk, sv_FQ, sv_evs, sv_ev, sv_evT, sv_nth, sv_adq, sv_gs, q_Ks_37, q_Q_37]
    refine ⟨⟨⟨bso, Kso⟩, ⟨blv, Klv⟩, ⟨blo, Klo⟩, ⟨bcu, Kcu⟩, ⟨bns, Kns⟩⟩, ?_⟩
    rw [sv_Qsn_iff]
    simp only [sv_put_eq, eso, elv, ecu, ens]
    have et : xt = xi := by omega
    rw [et] at h0 ⊢
    intro k k1 k2
    rw [if_pos rfl] at k2
    by_cases e : k = xy1 + xy2 + xy3 + xy4
    · have u : g xso (150 * xi + k) = xg := sv_fat (by omega) h18
      omega
    · exact h0 k k1 (by omega)
-- sn_acu
def q_m98 : Nat × SvM := (77, ([(0, none), (-1180591620717411303424, none), (-1180591620717411303424, none), (0, none), (0, none), (0, none), (0, none), (-1180591620717411303424, none), (-1180591620717411303424, none), (-1180591620717411303424, none), (-1180591620717411303424, none), (-1180591620717411303424, none), (-1180591620717411303424, none), (-1180591620717411303424, none), (-1180591620717411303424, none), (-1180591620717411303424, none), (-1180591620717411303424, none), (-1180591620717411303424, none)], [(53, [], [(0, [(3, 1)]), (0, [(4, 1)]), (0, [(5, 1)]), (0, [(0, 1)]), (0, [(6, 1)]), (0, [(7, 1)])]), (4, [75, 1], [(0, [(4, 1)]), (0, [(1, 1)]), (0, [(10, 1)])]), (2, [], [(0, [(4, 1)]), (0, [(11, 1)])]), (0, [], [(-1, [(1, -1), (11, 1)])]), (4, [76, 1], [(0, [(5, 1)]), (0, [(1, 1)]), (0, [(12, 1)])]), (2, [], [(0, [(5, 1)]), (0, [(13, 1)])]), (0, [], [(-1, [(1, -1), (13, 1)])]), (4, [77, 1], [(0, [(0, 1)]), (0, [(1, 1)]), (0, [(14, 1)])]), (2, [], [(0, [(0, 1)]), (0, [(15, 1)])]), (0, [], [(-1, [(1, -1), (15, 1)])]), (4, [78, 1], [(0, [(6, 1)]), (0, [(1, 1)]), (0, [(16, 1)])]), (2, [], [(0, [(6, 1)]), (0, [(17, 1)])]), (0, [], [(-1, [(1, -1), (17, 1)])]), (0, [], [(1, [(2, -1), (14, 1)])]), (0, [], [(-1, [(2, 1), (14, -1)])]), (0, [], [(0, [(1, 1)])]), (0, [], [(0, [(1, 1), (7, -1)])]), (0, [], [(0, [(1, -1), (7, 1)])]), (4, [97, 1], [(0, [(3, 1)]), (0, [(1, 150), (10, 1), (12, 1), (14, 1), (16, 1)]), (0, [(8, 1)])]), (2, [], [(0, [(3, 1)]), (0, [(9, 1)])]), (0, [], [(-1, [(1, -150), (9, 1), (10, -1), (12, -1), (14, -1), (16, -1)])]), (0, [], [(0, [(10, 1), (12, 1), (14, 1), (16, 1)])]), (0, [], [(-1, [(8, -1)])]), (0, [], [(1, [(8, 1)])])], [(53, [], [(0, [(3, 1)]), (0, [(4, 1)]), (0, [(5, 1)]), (0, [(0, 1)]), (0, [(6, 1)]), (0, [(7, 1)])])]))
theorem q_m98_ok : ∀ (g : Int → Int → Int) (ln : Int → Int) (kf : Int → Nat) (ρ : List Int) (a i x : Int), sv_BOk ρ q_m98.2.1 → (∀ f ∈ q_m98.2.2.1, sv_FQk q_Ks q_Q g ln kf ρ f) → sv_nth ρ 0 = some a → sv_nth ρ 1 = some i → sv_nth ρ 2 = some x → 0 ≤ a → 0 ≤ i → i < ln a → kf a = q_m98.1 → ∀ f ∈ q_m98.2.2.2, sv_FQk q_Ks q_Q (sv_put g a i x) ln kf ρ f := by
  intro g ln kf ρ a i x hb hf n0 n1 n2 p0 p1 p2 p3
  obtain ⟨hl, hb⟩ := hb
  obtain ⟨xcu, r0, rfl, l0⟩ := sv_lens hl
  obtain ⟨xi, r1, rfl, l1⟩ := sv_lens l0
  obtain ⟨xx, r2, rfl, l2⟩ := sv_lens l1
  obtain ⟨xso, r3, rfl, l3⟩ := sv_lens l2
  obtain ⟨xlv, r4, rfl, l4⟩ := sv_lens l3
  obtain ⟨xlo, r5, rfl, l5⟩ := sv_lens l4
  obtain ⟨xns, r6, rfl, l6⟩ := sv_lens l5
  obtain ⟨xt, r7, rfl, l7⟩ := sv_lens l6
  obtain ⟨xg, r8, rfl, l8⟩ := sv_lens l7
  obtain ⟨xN, r9, rfl, l9⟩ := sv_lens l8
  obtain ⟨xy1, r10, rfl, l10⟩ := sv_lens l9
  obtain ⟨xM1, r11, rfl, l11⟩ := sv_lens l10
  obtain ⟨xy2, r12, rfl, l12⟩ := sv_lens l11
  obtain ⟨xM2, r13, rfl, l13⟩ := sv_lens l12
  obtain ⟨xy3, r14, rfl, l14⟩ := sv_lens l13
  obtain ⟨xM3, r15, rfl, l15⟩ := sv_lens l14
  obtain ⟨xy4, r16, rfl, l16⟩ := sv_lens l15
  obtain ⟨xM4, r17, rfl, l17⟩ := sv_lens l16
  obtain rfl := sv_len0 l17
  clear l0 l1 l2 l3 l4 l5 l6 l7 l8 l9 l10 l11 l12 l13 l14 l15 l16 l17 hl
  have bcu : 0 ≤ xcu := (hb 0 _ _ rfl rfl).1
  have bso : 0 ≤ xso := (hb 3 _ _ rfl rfl).1
  have blv : 0 ≤ xlv := (hb 4 _ _ rfl rfl).1
  have blo : 0 ≤ xlo := (hb 5 _ _ rfl rfl).1
  have bns : 0 ≤ xns := (hb 6 _ _ rfl rfl).1
  clear hb
  obtain rfl : xcu = a := by simpa [sv_nth] using n0
  obtain rfl : xi = i := by simpa [sv_nth] using n1
  obtain rfl : xx = x := by simpa [sv_nth] using n2
  clear n0 n1 n2
  have p3 : kf xcu = 77 := p3
  have h0 := hf _ (List.mem_of_getElem? (i := 0) rfl)
  simp [sv_FQk, sv_FQ, sv_evs, sv_ev, sv_evT, sv_nth, sv_adq, sv_gs, q_Ks_37, q_Q_37] at h0
  have h1 := hf _ (List.mem_of_getElem? (i := 1) rfl)
  simp [sv_FQk, sv_FQ, sv_evs, sv_ev, sv_evT, sv_nth, sv_adq, sv_gs] at h1
  have h2 := hf _ (List.mem_of_getElem? (i := 2) rfl)
  simp [sv_FQk, sv_FQ, sv_evs, sv_ev, sv_evT, sv_nth, sv_adq, sv_gs] at h2
  have h3 := hf _ (List.mem_of_getElem? (i := 3) rfl)
  simp [sv_FQk, sv_FQ, sv_evs, sv_ev, sv_evT, sv_nth, sv_adq, sv_gs] at h3
  have h4 := hf _ (List.mem_of_getElem? (i := 4) rfl)
  simp [sv_FQk, sv_FQ, sv_evs, sv_ev, sv_evT, sv_nth, sv_adq, sv_gs] at h4
  have h5 := hf _ (List.mem_of_getElem? (i := 5) rfl)
  simp [sv_FQk, sv_FQ, sv_evs, sv_ev, sv_evT, sv_nth, sv_adq, sv_gs] at h5
  have h6 := hf _ (List.mem_of_getElem? (i := 6) rfl)
  simp [sv_FQk, sv_FQ, sv_evs, sv_ev, sv_evT, sv_nth, sv_adq, sv_gs] at h6
  have h7 := hf _ (List.mem_of_getElem? (i := 7) rfl)
  simp [sv_FQk, sv_FQ, sv_evs, sv_ev, sv_evT, sv_nth, sv_adq, sv_gs] at h7
  have h8 := hf _ (List.mem_of_getElem? (i := 8) rfl)
  simp [sv_FQk, sv_FQ, sv_evs, sv_ev, sv_evT, sv_nth, sv_adq, sv_gs] at h8
  have h9 := hf _ (List.mem_of_getElem? (i := 9) rfl)
  simp [sv_FQk, sv_FQ, sv_evs, sv_ev, sv_evT, sv_nth, sv_adq, sv_gs] at h9
  have h10 := hf _ (List.mem_of_getElem? (i := 10) rfl)
  simp [sv_FQk, sv_FQ, sv_evs, sv_ev, sv_evT, sv_nth, sv_adq, sv_gs] at h10
  have h11 := hf _ (List.mem_of_getElem? (i := 11) rfl)
  simp [sv_FQk, sv_FQ, sv_evs, sv_ev, sv_evT, sv_nth, sv_adq, sv_gs] at h11
  have h12 := hf _ (List.mem_of_getElem? (i := 12) rfl)
  simp [sv_FQk, sv_FQ, sv_evs, sv_ev, sv_evT, sv_nth, sv_adq, sv_gs] at h12
  have h13 := hf _ (List.mem_of_getElem? (i := 13) rfl)
  simp [sv_FQk, sv_FQ, sv_evs, sv_ev, sv_evT, sv_nth, sv_adq, sv_gs] at h13
  have h14 := hf _ (List.mem_of_getElem? (i := 14) rfl)
  simp [sv_FQk, sv_FQ, sv_evs, sv_ev, sv_evT, sv_nth, sv_adq, sv_gs] at h14
  have h15 := hf _ (List.mem_of_getElem? (i := 15) rfl)
  simp [sv_FQk, sv_FQ, sv_evs, sv_ev, sv_evT, sv_nth, sv_adq, sv_gs] at h15
  have h16 := hf _ (List.mem_of_getElem? (i := 16) rfl)
  simp [sv_FQk, sv_FQ, sv_evs, sv_ev, sv_evT, sv_nth, sv_adq, sv_gs] at h16
  have h17 := hf _ (List.mem_of_getElem? (i := 17) rfl)
  simp [sv_FQk, sv_FQ, sv_evs, sv_ev, sv_evT, sv_nth, sv_adq, sv_gs] at h17
  have h18 := hf _ (List.mem_of_getElem? (i := 18) rfl)
  simp [sv_FQk, sv_FQ, sv_evs, sv_ev, sv_evT, sv_nth, sv_adq, sv_gs] at h18
  have h19 := hf _ (List.mem_of_getElem? (i := 19) rfl)
  simp [sv_FQk, sv_FQ, sv_evs, sv_ev, sv_evT, sv_nth, sv_adq, sv_gs] at h19
  have h20 := hf _ (List.mem_of_getElem? (i := 20) rfl)
  simp [sv_FQk, sv_FQ, sv_evs, sv_ev, sv_evT, sv_nth, sv_adq, sv_gs] at h20
  have h21 := hf _ (List.mem_of_getElem? (i := 21) rfl)
  simp [sv_FQk, sv_FQ, sv_evs, sv_ev, sv_evT, sv_nth, sv_adq, sv_gs] at h21
  have h22 := hf _ (List.mem_of_getElem? (i := 22) rfl)
  simp [sv_FQk, sv_FQ, sv_evs, sv_ev, sv_evT, sv_nth, sv_adq, sv_gs] at h22
  have h23 := hf _ (List.mem_of_getElem? (i := 23) rfl)
  simp [sv_FQk, sv_FQ, sv_evs, sv_ev, sv_evT, sv_nth, sv_adq, sv_gs] at h23
  clear hf
  obtain ⟨⟨⟨-, Kso⟩, ⟨-, Klv⟩, ⟨-, Klo⟩, ⟨-, Kcu⟩, ⟨-, Kns⟩⟩, h0⟩ := h0
  rw [sv_Qsn_iff] at h0
  replace h1 := h1 blv (by omega) (by have := h2 blv; omega)
  replace h4 := h4 blo (by omega) (by have := h5 blo; omega)
  replace h7 := h7 bcu (by omega) (by have := h8 bcu; omega)
  replace h10 := h10 bns (by omega) (by have := h11 bns; omega)
  replace h18 := h18 bso (by omega) (by have := h19 bso; omega)
  have eso : sv_put g xcu xi xx xso = g xso := sv_put_ne (sv_kf_ne Kso p3 (by decide))
  have elv : sv_put g xcu xi xx xlv = g xlv := sv_put_ne (sv_kf_ne Klv p3 (by decide))
  have elo : sv_put g xcu xi xx xlo = g xlo := sv_put_ne (sv_kf_ne Klo p3 (by decide))
  have ens : sv_put g xcu xi xx xns = g xns := sv_put_ne (sv_kf_ne Kns p3 (by decide))
  intro f hf
  have hf : f ∈ [(53, [], [(0, [(3, 1)]), (0, [(4, 1)]), (0, [(5, 1)]), (0, [(0, 1)]), (0, [(6, 1)]), (0, [(7, 1)])])] := hf
  simp only [List.mem_cons, List.not_mem_nil, or_false] at hf
  subst hf
  · simp [sv_FQk, sv_FQ, sv_evs, sv_ev, sv_evT, sv_nth, sv_adq, sv_gs, q_Ks_37, q_Q_37]
    refine ⟨⟨⟨bso, Kso⟩, ⟨blv, Klv⟩, ⟨blo, Klo⟩, ⟨bcu, Kcu⟩, ⟨bns, Kns⟩⟩, ?_⟩
    rw [sv_Qsn_iff]
    simp only [sv_put_eq, eso, elv, elo, ens]
    have et : xt = xi := by omega
    rw [et] at h0 ⊢
    intro k k1 k2
    rw [if_pos rfl] at k2
    by_cases e : k = xy1 + xy2 + xy3 + xy4
    · have u : g xso (150 * xi + k) = xg := sv_fat (by omega) h18
      omega
    · exact h0 k k1 (by omega)
