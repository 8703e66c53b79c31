-- ===== laws of opaque facts =====
-- nm_o2
def q_m9 : Nat × SvM := (66, ([(0, none), (-1180591620717411303424, none), (-1180591620717411303424, none), (0, none), (-1180591620717411303424, none), (-1180591620717411303424, none), (-1180591620717411303424, none), (-1180591620717411303424, none)], [(19, [], [(0, [(3, 1)]), (0, [(0, 1)]), (0, [(4, 1)]), (0, [(5, 1)]), (0, [(6, 1)]), (0, [(7, 1)])]), (0, [], [(0, [(1, 1), (5, -1)])])], [(19, [], [(0, [(3, 1)]), (0, [(0, 1)]), (0, [(4, 1)]), (0, [(5, 1)]), (0, [(6, 1)]), (0, [(7, 1)])])]))
theorem q_m9_ok : ∀ (g : Int → Int → Int) (ln : Int → Int) (kf : Int → Nat) (ρ : List Int) (a i x : Int), sv_BOk ρ q_m9.2.1 → (∀ f ∈ q_m9.2.2.1, sv_FQk q_Ks q_Q g ln kf ρ f) → sv_nth ρ 0 = some a → sv_nth ρ 1 = some i → sv_nth ρ 2 = some x → 0 ≤ a → 0 ≤ i → i < ln a → kf a = q_m9.1 → ∀ f ∈ q_m9.2.2.2, sv_FQk q_Ks q_Q (sv_put g a i x) ln kf ρ f := by
  intro g ln kf ρ a i x hb hf n0 n1 n2 p0 p1 p2 p3
  obtain ⟨hl, hb⟩ := hb
  obtain ⟨xb, r0, rfl, l0⟩ := sv_lens hl
  obtain ⟨xi, r1, rfl, l1⟩ := sv_lens l0
  obtain ⟨xy, r2, rfl, l2⟩ := sv_lens l1
  obtain ⟨xa, r3, rfl, l3⟩ := sv_lens l2
  obtain ⟨xlo, r4, rfl, l4⟩ := sv_lens l3
  obtain ⟨xhi, r5, rfl, l5⟩ := sv_lens l4
  obtain ⟨xl, r6, rfl, l6⟩ := sv_lens l5
  obtain ⟨xu, r7, rfl, l7⟩ := sv_lens l6
  obtain rfl := sv_len0 l7
  clear l0 l1 l2 l3 l4 l5 l6 l7 hl
  have bb : 0 ≤ xb := (hb 0 _ _ rfl rfl).1
  have ba : 0 ≤ xa := (hb 3 _ _ rfl rfl).1
  clear hb
  obtain rfl : xb = a := by simpa [sv_nth] using n0
  obtain rfl : xi = i := by simpa [sv_nth] using n1
  obtain rfl : xy = x := by simpa [sv_nth] using n2
  clear n0 n1 n2
  have p3 : kf xb = 66 := p3
  have h0 := hf _ (List.mem_of_getElem? (i := 0) rfl)
  simp [sv_FQk, sv_FQ, sv_evs, sv_ev, sv_evT, sv_nth, sv_adq, sv_gs, q_Ks_3, q_Q_3] at h0
  have h1 := hf _ (List.mem_of_getElem? (i := 1) rfl)
  simp [sv_FQk, sv_FQ, sv_evs, sv_ev, sv_evT, sv_nth, sv_adq, sv_gs] at h1
  clear hf
  obtain ⟨⟨⟨-, Ka⟩, ⟨-, Kb⟩⟩, h0⟩ := h0
  rw [sv_Qlin2_iff] at h0
  have ea : sv_put g xb xi xy xa = g xa := sv_put_ne (sv_kf_ne Ka p3 (by decide))
  intro f hf
  have hf : f ∈ [(19, [], [(0, [(3, 1)]), (0, [(0, 1)]), (0, [(4, 1)]), (0, [(5, 1)]), (0, [(6, 1)]), (0, [(7, 1)])])] := hf
  simp only [List.mem_cons, List.not_mem_nil, or_false] at hf
  subst hf
  · simp [sv_FQk, sv_FQ, sv_evs, sv_ev, sv_evT, sv_nth, sv_adq, sv_gs, q_Ks_3, q_Q_3]
    refine ⟨⟨⟨ba, Ka⟩, ⟨bb, Kb⟩⟩, ?_⟩
    rw [sv_Qlin2_iff]
    simp only [sv_put_eq, ea]
    intro j j1 j2
    rw [if_neg (by omega)]
    exact h0 j j1 j2
-- wv_s
def q_m10 : Nat × SvM := (58, ([(0, none), (-1180591620717411303424, none), (-1180591620717411303424, none), (-1180591620717411303424, none), (-1180591620717411303424, none), (-1180591620717411303424, none), (-1180591620717411303424, none)], [(20, [], [(0, [(0, 1)]), (0, [(3, 1)]), (0, [(4, 1)]), (0, [(5, 1)]), (0, [(6, 1)])]), (0, [], [(0, [(1, -1), (4, 1)])]), (0, [], [(0, [(1, 1), (4, -1)])]), (0, [], [(0, [(1, 1), (2, 1), (5, -1)])]), (0, [], [(0, [(1, -1), (2, -1), (6, 1)])])], [(20, [], [(0, [(0, 1)]), (0, [(3, 1)]), (1, [(4, 1)]), (0, [(5, 1)]), (0, [(6, 1)])])]))
theorem q_m10_ok : ∀ (g : Int → Int → Int) (ln : Int → Int) (kf : Int → Nat) (ρ : List Int) (a i x : Int), sv_BOk ρ q_m10.2.1 → (∀ f ∈ q_m10.2.2.1, sv_FQk q_Ks q_Q g ln kf ρ f) → sv_nth ρ 0 = some a → sv_nth ρ 1 = some i → sv_nth ρ 2 = some x → 0 ≤ a → 0 ≤ i → i < ln a → kf a = q_m10.1 → ∀ f ∈ q_m10.2.2.2, sv_FQk q_Ks q_Q (sv_put g a i x) ln kf ρ f := by
  intro g ln kf ρ a i x hb hf n0 n1 n2 p0 p1 p2 p3
  obtain ⟨hl, hb⟩ := hb
  obtain ⟨xa, r0, rfl, l0⟩ := sv_lens hl
  obtain ⟨xi, r1, rfl, l1⟩ := sv_lens l0
  obtain ⟨xx, r2, rfl, l2⟩ := sv_lens l1
  obtain ⟨xlo, r3, rfl, l3⟩ := sv_lens l2
  obtain ⟨xhi, r4, rfl, l4⟩ := sv_lens l3
  obtain ⟨xl, r5, rfl, l5⟩ := sv_lens l4
  obtain ⟨xu, r6, rfl, l6⟩ := sv_lens l5
  obtain rfl := sv_len0 l6
  clear l0 l1 l2 l3 l4 l5 l6 hl
  have ba : 0 ≤ xa := (hb 0 _ _ rfl rfl).1
  clear hb
  obtain rfl : xa = a := by simpa [sv_nth] using n0
  obtain rfl : xi = i := by simpa [sv_nth] using n1
  obtain rfl : xx = x := by simpa [sv_nth] using n2
  clear n0 n1 n2
  have p3 : kf xa = 58 := p3
  have h0 := hf _ (List.mem_of_getElem? (i := 0) rfl)
  simp [sv_FQk, sv_FQ, sv_evs, sv_ev, sv_evT, sv_nth, sv_adq, sv_gs, q_Ks_4, q_Q_4] at h0
  have h1 := hf _ (List.mem_of_getElem? (i := 1) rfl)
  simp [sv_FQk, sv_FQ, sv_evs, sv_ev, sv_evT, sv_nth, sv_adq, sv_gs] at h1
  have h2 := hf _ (List.mem_of_getElem? (i := 2) rfl)
  simp [sv_FQk, sv_FQ, sv_evs, sv_ev, sv_evT, sv_nth, sv_adq, sv_gs] at h2
  have h3 := hf _ (List.mem_of_getElem? (i := 3) rfl)
  simp [sv_FQk, sv_FQ, sv_evs, sv_ev, sv_evT, sv_nth, sv_adq, sv_gs] at h3
  have h4 := hf _ (List.mem_of_getElem? (i := 4) rfl)
  simp [sv_FQk, sv_FQ, sv_evs, sv_ev, sv_evT, sv_nth, sv_adq, sv_gs] at h4
  clear hf
  obtain ⟨⟨-, Ka⟩, h0⟩ := h0
  rw [sv_Qlin_iff] at h0
  intro f hf
  have hf : f ∈ [(20, [], [(0, [(0, 1)]), (0, [(3, 1)]), (1, [(4, 1)]), (0, [(5, 1)]), (0, [(6, 1)])])] := hf
  simp only [List.mem_cons, List.not_mem_nil, or_false] at hf
  subst hf
  · simp [sv_FQk, sv_FQ, sv_evs, sv_ev, sv_evT, sv_nth, sv_adq, sv_gs, q_Ks_4, q_Q_4]
    refine ⟨⟨ba, Ka⟩, ?_⟩
    rw [sv_Qlin_iff]
    simp only [sv_put_eq]
    intro j j1 j2
    by_cases e : j = xi
    · rw [if_pos e]
      omega
    · rw [if_neg e]
      exact h0 j j1 (by omega)
-- wv_k
def q_m11 : Nat × SvM := (58, ([(0, none), (-1180591620717411303424, none), (-1180591620717411303424, none), (-1180591620717411303424, none), (-1180591620717411303424, none), (-1180591620717411303424, none), (-1180591620717411303424, none)], [(20, [], [(0, [(0, 1)]), (0, [(3, 1)]), (0, [(4, 1)]), (0, [(5, 1)]), (0, [(6, 1)])]), (0, [], [(0, [(1, 1), (2, 1), (5, -1)])]), (0, [], [(0, [(1, -1), (2, -1), (6, 1)])])], [(20, [], [(0, [(0, 1)]), (0, [(3, 1)]), (0, [(4, 1)]), (0, [(5, 1)]), (0, [(6, 1)])])]))
theorem q_m11_ok : ∀ (g : Int → Int → Int) (ln : Int → Int) (kf : Int → Nat) (ρ : List Int) (a i x : Int), sv_BOk ρ q_m11.2.1 → (∀ f ∈ q_m11.2.2.1, sv_FQk q_Ks q_Q g ln kf ρ f) → sv_nth ρ 0 = some a → sv_nth ρ 1 = some i → sv_nth ρ 2 = some x → 0 ≤ a → 0 ≤ i → i < ln a → kf a = q_m11.1 → ∀ f ∈ q_m11.2.2.2, sv_FQk q_Ks q_Q (sv_put g a i x) ln kf ρ f := by
  intro g ln kf ρ a i x hb hf n0 n1 n2 p0 p1 p2 p3
  obtain ⟨hl, hb⟩ := hb
  obtain ⟨xa, r0, rfl, l0⟩ := sv_lens hl
  obtain ⟨xi, r1, rfl, l1⟩ := sv_lens l0
  obtain ⟨xx, r2, rfl, l2⟩ := sv_lens l1
  obtain ⟨xlo, r3, rfl, l3⟩ := sv_lens l2
  obtain ⟨xhi, r4, rfl, l4⟩ := sv_lens l3
  obtain ⟨xl, r5, rfl, l5⟩ := sv_lens l4
  obtain ⟨xu, r6, rfl, l6⟩ := sv_lens l5
  obtain rfl := sv_len0 l6
  clear l0 l1 l2 l3 l4 l5 l6 hl
  have ba : 0 ≤ xa := (hb 0 _ _ rfl rfl).1
  clear hb
  obtain rfl : xa = a := by simpa [sv_nth] using n0
  obtain rfl : xi = i := by simpa [sv_nth] using n1
  obtain rfl : xx = x := by simpa [sv_nth] using n2
  clear n0 n1 n2
  have p3 : kf xa = 58 := p3
  have h0 := hf _ (List.mem_of_getElem? (i := 0) rfl)
  simp [sv_FQk, sv_FQ, sv_evs, sv_ev, sv_evT, sv_nth, sv_adq, sv_gs, q_Ks_4, q_Q_4] at h0
  have h1 := hf _ (List.mem_of_getElem? (i := 1) rfl)
  simp [sv_FQk, sv_FQ, sv_evs, sv_ev, sv_evT, sv_nth, sv_adq, sv_gs] at h1
  have h2 := hf _ (List.mem_of_getElem? (i := 2) rfl)
  simp [sv_FQk, sv_FQ, sv_evs, sv_ev, sv_evT, sv_nth, sv_adq, sv_gs] at h2
  clear hf
  obtain ⟨⟨-, Ka⟩, h0⟩ := h0
  rw [sv_Qlin_iff] at h0
  intro f hf
  have hf : f ∈ [(20, [], [(0, [(0, 1)]), (0, [(3, 1)]), (0, [(4, 1)]), (0, [(5, 1)]), (0, [(6, 1)])])] := hf
  simp only [List.mem_cons, List.not_mem_nil, or_false] at hf
  subst hf
  · simp [sv_FQk, sv_FQ, sv_evs, sv_ev, sv_evT, sv_nth, sv_adq, sv_gs, q_Ks_4, q_Q_4]
    refine ⟨⟨ba, Ka⟩, ?_⟩
    rw [sv_Qlin_iff]
    simp only [sv_put_eq]
    intro j j1 j2
    by_cases e : j = xi
    · rw [if_pos e]
      try rw [e]
      omega
    · rw [if_neg e]
      exact h0 j j1 j2
-- wv_o
def q_m12 : Nat × SvM := (58, ([(0, none), (-1180591620717411303424, none), (-1180591620717411303424, none), (-1180591620717411303424, none), (-1180591620717411303424, none), (-1180591620717411303424, none), (-1180591620717411303424, none)], [(20, [], [(0, [(0, 1)]), (0, [(3, 1)]), (0, [(4, 1)]), (0, [(5, 1)]), (0, [(6, 1)])]), (0, [], [(0, [(1, 1), (4, -1)])])], [(20, [], [(0, [(0, 1)]), (0, [(3, 1)]), (0, [(4, 1)]), (0, [(5, 1)]), (0, [(6, 1)])])]))
theorem q_m12_ok : ∀ (g : Int → Int → Int) (ln : Int → Int) (kf : Int → Nat) (ρ : List Int) (a i x : Int), sv_BOk ρ q_m12.2.1 → (∀ f ∈ q_m12.2.2.1, sv_FQk q_Ks q_Q g ln kf ρ f) → sv_nth ρ 0 = some a → sv_nth ρ 1 = some i → sv_nth ρ 2 = some x → 0 ≤ a → 0 ≤ i → i < ln a → kf a = q_m12.1 → ∀ f ∈ q_m12.2.2.2, sv_FQk q_Ks q_Q (sv_put g a i x) ln kf ρ f := by
  intro g ln kf ρ a i x hb hf n0 n1 n2 p0 p1 p2 p3
  obtain ⟨hl, hb⟩ := hb
  obtain ⟨xa, r0, rfl, l0⟩ := sv_lens hl
  obtain ⟨xi, r1, rfl, l1⟩ := sv_lens l0
  obtain ⟨xx, r2, rfl, l2⟩ := sv_lens l1
  obtain ⟨xlo, r3, rfl, l3⟩ := sv_lens l2
  obtain ⟨xhi, r4, rfl, l4⟩ := sv_lens l3
  obtain ⟨xl, r5, rfl, l5⟩ := sv_lens l4
  obtain ⟨xu, r6, rfl, l6⟩ := sv_lens l5
  obtain rfl := sv_len0 l6
  clear l0 l1 l2 l3 l4 l5 l6 hl
  have ba : 0 ≤ xa := (hb 0 _ _ rfl rfl).1
  clear hb
  obtain rfl : xa = a := by simpa [sv_nth] using n0
  obtain rfl : xi = i := by simpa [sv_nth] using n1
  obtain rfl : xx = x := by simpa [sv_nth] using n2
  clear n0 n1 n2
  have p3 : kf xa = 58 := p3
  have h0 := hf _ (List.mem_of_getElem? (i := 0) rfl)
  simp [sv_FQk, sv_FQ, sv_evs, sv_ev, sv_evT, sv_nth, sv_adq, sv_gs, q_Ks_4, q_Q_4] at h0
  have h1 := hf _ (List.mem_of_getElem? (i := 1) rfl)
  simp [sv_FQk, sv_FQ, sv_evs, sv_ev, sv_evT, sv_nth, sv_adq, sv_gs] at h1
  clear hf
  obtain ⟨⟨-, Ka⟩, h0⟩ := h0
  rw [sv_Qlin_iff] at h0
  intro f hf
  have hf : f ∈ [(20, [], [(0, [(0, 1)]), (0, [(3, 1)]), (0, [(4, 1)]), (0, [(5, 1)]), (0, [(6, 1)])])] := hf
  simp only [List.mem_cons, List.not_mem_nil, or_false] at hf
  subst hf
  · simp [sv_FQk, sv_FQ, sv_evs, sv_ev, sv_evT, sv_nth, sv_adq, sv_gs, q_Ks_4, q_Q_4]
    refine ⟨⟨ba, Ka⟩, ?_⟩
    rw [sv_Qlin_iff]
    simp only [sv_put_eq]
    intro j j1 j2
    rw [if_neg (by omega)]
    exact h0 j j1 j2
-- wv_p
def q_m13 : Nat × SvM := (58, ([(0, none), (-1180591620717411303424, none), (-1180591620717411303424, none), (-1180591620717411303424, none), (-1180591620717411303424, none), (-1180591620717411303424, none), (-1180591620717411303424, none)], [(20, [], [(0, [(0, 1)]), (0, [(3, 1)]), (0, [(4, 1)]), (0, [(5, 1)]), (0, [(6, 1)])]), (0, [], [(-1, [(1, -1), (3, 1)])])], [(20, [], [(0, [(0, 1)]), (0, [(3, 1)]), (0, [(4, 1)]), (0, [(5, 1)]), (0, [(6, 1)])])]))
theorem q_m13_ok : ∀ (g : Int → Int → Int) (ln : Int → Int) (kf : Int → Nat) (ρ : List Int) (a i x : Int), sv_BOk ρ q_m13.2.1 → (∀ f ∈ q_m13.2.2.1, sv_FQk q_Ks q_Q g ln kf ρ f) → sv_nth ρ 0 = some a → sv_nth ρ 1 = some i → sv_nth ρ 2 = some x → 0 ≤ a → 0 ≤ i → i < ln a → kf a = q_m13.1 → ∀ f ∈ q_m13.2.2.2, sv_FQk q_Ks q_Q (sv_put g a i x) ln kf ρ f := by
  intro g ln kf ρ a i x hb hf n0 n1 n2 p0 p1 p2 p3
  obtain ⟨hl, hb⟩ := hb
  obtain ⟨xa, r0, rfl, l0⟩ := sv_lens hl
  obtain ⟨xi, r1, rfl, l1⟩ := sv_lens l0
  obtain ⟨xx, r2, rfl, l2⟩ := sv_lens l1
  obtain ⟨xlo, r3, rfl, l3⟩ := sv_lens l2
  obtain ⟨xhi, r4, rfl, l4⟩ := sv_lens l3
  obtain ⟨xl, r5, rfl, l5⟩ := sv_lens l4
  obtain ⟨xu, r6, rfl, l6⟩ := sv_lens l5
  obtain rfl := sv_len0 l6
  clear l0 l1 l2 l3 l4 l5 l6 hl
  have ba : 0 ≤ xa := (hb 0 _ _ rfl rfl).1
  clear hb
  obtain rfl : xa = a := by simpa [sv_nth] using n0
  obtain rfl : xi = i := by simpa [sv_nth] using n1
  obtain rfl : xx = x := by simpa [sv_nth] using n2
  clear n0 n1 n2
  have p3 : kf xa = 58 := p3
  have h0 := hf _ (List.mem_of_getElem? (i := 0) rfl)
  simp [sv_FQk, sv_FQ, sv_evs, sv_ev, sv_evT, sv_nth, sv_adq, sv_gs, q_Ks_4, q_Q_4] at h0
  have h1 := hf _ (List.mem_of_getElem? (i := 1) rfl)
  simp [sv_FQk, sv_FQ, sv_evs, sv_ev, sv_evT, sv_nth, sv_adq, sv_gs] at h1
  clear hf
  obtain ⟨⟨-, Ka⟩, h0⟩ := h0
  rw [sv_Qlin_iff] at h0
  intro f hf
  have hf : f ∈ [(20, [], [(0, [(0, 1)]), (0, [(3, 1)]), (0, [(4, 1)]), (0, [(5, 1)]), (0, [(6, 1)])])] := hf
  simp only [List.mem_cons, List.not_mem_nil, or_false] at hf
  subst hf
  · simp [sv_FQk, sv_FQ, sv_evs, sv_ev, sv_evT, sv_nth, sv_adq, sv_gs, q_Ks_4, q_Q_4]
    refine ⟨⟨ba, Ka⟩, ?_⟩
    rw [sv_Qlin_iff]
    simp only [sv_put_eq]
    intro j j1 j2
    rw [if_neg (by omega)]
    exact h0 j j1 j2
-- vol_ss
def q_m14 : Nat × SvM := (42, ([(0, none), (-1180591620717411303424, none), (-1180591620717411303424, none), (0, none), (0, none), (0, none), (-1180591620717411303424, none)], [(21, [], [(0, [(0, 1)]), (0, [(3, 1)]), (0, [(4, 1)]), (0, [(5, 1)]), (0, [(6, 1)])]), (0, [], [(0, [(1, 1), (6, -1)])])], [(21, [], [(0, [(0, 1)]), (0, [(3, 1)]), (0, [(4, 1)]), (0, [(5, 1)]), (0, [(6, 1)])])]))
theorem q_m14_ok : ∀ (g : Int → Int → Int) (ln : Int → Int) (kf : Int → Nat) (ρ : List Int) (a i x : Int), sv_BOk ρ q_m14.2.1 → (∀ f ∈ q_m14.2.2.1, sv_FQk q_Ks q_Q g ln kf ρ f) → sv_nth ρ 0 = some a → sv_nth ρ 1 = some i → sv_nth ρ 2 = some x → 0 ≤ a → 0 ≤ i → i < ln a → kf a = q_m14.1 → ∀ f ∈ q_m14.2.2.2, sv_FQk q_Ks q_Q (sv_put g a i x) ln kf ρ f := by
  intro g ln kf ρ a i x hb hf n0 n1 n2 p0 p1 p2 p3
  obtain ⟨hl, hb⟩ := hb
  obtain ⟨xs, r0, rfl, l0⟩ := sv_lens hl
  obtain ⟨xi, r1, rfl, l1⟩ := sv_lens l0
  obtain ⟨xq, r2, rfl, l2⟩ := sv_lens l1
  obtain ⟨xb, r3, rfl, l3⟩ := sv_lens l2
  obtain ⟨xm, r4, rfl, l4⟩ := sv_lens l3
  obtain ⟨xg, r5, rfl, l5⟩ := sv_lens l4
  obtain ⟨xn, r6, rfl, l6⟩ := sv_lens l5
  obtain rfl := sv_len0 l6
  clear l0 l1 l2 l3 l4 l5 l6 hl
  have bs : 0 ≤ xs := (hb 0 _ _ rfl rfl).1
  have bb : 0 ≤ xb := (hb 3 _ _ rfl rfl).1
  have bm : 0 ≤ xm := (hb 4 _ _ rfl rfl).1
  have bg : 0 ≤ xg := (hb 5 _ _ rfl rfl).1
  clear hb
  obtain rfl : xs = a := by simpa [sv_nth] using n0
  obtain rfl : xi = i := by simpa [sv_nth] using n1
  obtain rfl : xq = x := by simpa [sv_nth] using n2
  clear n0 n1 n2
  have p3 : kf xs = 42 := p3
  have h0 := hf _ (List.mem_of_getElem? (i := 0) rfl)
  simp [sv_FQk, sv_FQ, sv_evs, sv_ev, sv_evT, sv_nth, sv_adq, sv_gs, q_Ks_5, q_Q_5] at h0
  have h1 := hf _ (List.mem_of_getElem? (i := 1) rfl)
  simp [sv_FQk, sv_FQ, sv_evs, sv_ev, sv_evT, sv_nth, sv_adq, sv_gs] at h1
  clear hf
  obtain ⟨⟨⟨-, Ks⟩, ⟨-, Kb⟩, ⟨-, Km⟩, ⟨-, Kg⟩⟩, h0⟩ := h0
  rw [sv_Qvol_iff] at h0
  have eb : sv_put g xs xi xq xb = g xb := sv_put_ne (sv_kf_ne Kb p3 (by decide))
  have em : sv_put g xs xi xq xm = g xm := sv_put_ne (sv_kf_ne Km p3 (by decide))
  have eg : sv_put g xs xi xq xg = g xg := sv_put_ne (sv_kf_ne Kg p3 (by decide))
  intro f hf
  have hf : f ∈ [(21, [], [(0, [(0, 1)]), (0, [(3, 1)]), (0, [(4, 1)]), (0, [(5, 1)]), (0, [(6, 1)])])] := hf
  simp only [List.mem_cons, List.not_mem_nil, or_false] at hf
  subst hf
  · simp [sv_FQk, sv_FQ, sv_evs, sv_ev, sv_evT, sv_nth, sv_adq, sv_gs, q_Ks_5, q_Q_5]
    refine ⟨⟨⟨bs, Ks⟩, ⟨bb, Kb⟩, ⟨bm, Km⟩, ⟨bg, Kg⟩⟩, ?_⟩
    rw [sv_Qvol_iff]
    simp only [sv_put_eq, eb, em, eg]
    intro v v1 v2
    have q := h0 v v1 v2
    try rw [if_neg (by omega : ¬ v = xi)]
    try rw [if_neg (by omega : ¬ 3 * v = xi), if_neg (by omega : ¬ 1 + 3 * v = xi), if_neg (by omega : ¬ 2 + 3 * v = xi)]
    first
      | exact q
      | exact sv_vr_congr (fun c hc => if_neg (by omega)) q
-- vol_sb
def q_m15 : Nat × SvM := (45, ([(0, none), (-1180591620717411303424, none), (-1180591620717411303424, none), (0, none), (0, none), (0, none), (-1180591620717411303424, none)], [(21, [], [(0, [(3, 1)]), (0, [(0, 1)]), (0, [(4, 1)]), (0, [(5, 1)]), (0, [(6, 1)])]), (0, [], [(0, [(1, 1), (6, -1)])])], [(21, [], [(0, [(3, 1)]), (0, [(0, 1)]), (0, [(4, 1)]), (0, [(5, 1)]), (0, [(6, 1)])])]))
theorem q_m15_ok : ∀ (g : Int → Int → Int) (ln : Int → Int) (kf : Int → Nat) (ρ : List Int) (a i x : Int), sv_BOk ρ q_m15.2.1 → (∀ f ∈ q_m15.2.2.1, sv_FQk q_Ks q_Q g ln kf ρ f) → sv_nth ρ 0 = some a → sv_nth ρ 1 = some i → sv_nth ρ 2 = some x → 0 ≤ a → 0 ≤ i → i < ln a → kf a = q_m15.1 → ∀ f ∈ q_m15.2.2.2, sv_FQk q_Ks q_Q (sv_put g a i x) ln kf ρ f := by
  intro g ln kf ρ a i x hb hf n0 n1 n2 p0 p1 p2 p3
  obtain ⟨hl, hb⟩ := hb
  obtain ⟨xb, r0, rfl, l0⟩ := sv_lens hl
  obtain ⟨xi, r1, rfl, l1⟩ := sv_lens l0
  obtain ⟨xq, r2, rfl, l2⟩ := sv_lens l1
  obtain ⟨xs, r3, rfl, l3⟩ := sv_lens l2
  obtain ⟨xm, r4, rfl, l4⟩ := sv_lens l3
  obtain ⟨xg, r5, rfl, l5⟩ := sv_lens l4
  obtain ⟨xn, r6, rfl, l6⟩ := sv_lens l5
  obtain rfl := sv_len0 l6
  clear l0 l1 l2 l3 l4 l5 l6 hl
  have bb : 0 ≤ xb := (hb 0 _ _ rfl rfl).1
  have bs : 0 ≤ xs := (hb 3 _ _ rfl rfl).1
  have bm : 0 ≤ xm := (hb 4 _ _ rfl rfl).1
  have bg : 0 ≤ xg := (hb 5 _ _ rfl rfl).1
  clear hb
  obtain rfl : xb = a := by simpa [sv_nth] using n0
  obtain rfl : xi = i := by simpa [sv_nth] using n1
  obtain rfl : xq = x := by simpa [sv_nth] using n2
  clear n0 n1 n2
  have p3 : kf xb = 45 := p3
  have h0 := hf _ (List.mem_of_getElem? (i := 0) rfl)
  simp [sv_FQk, sv_FQ, sv_evs, sv_ev, sv_evT, sv_nth, sv_adq, sv_gs, q_Ks_5, q_Q_5] at h0
  have h1 := hf _ (List.mem_of_getElem? (i := 1) rfl)
  simp [sv_FQk, sv_FQ, sv_evs, sv_ev, sv_evT, sv_nth, sv_adq, sv_gs] at h1
  clear hf
  obtain ⟨⟨⟨-, Ks⟩, ⟨-, Kb⟩, ⟨-, Km⟩, ⟨-, Kg⟩⟩, h0⟩ := h0
  rw [sv_Qvol_iff] at h0
  have es : sv_put g xb xi xq xs = g xs := sv_put_ne (sv_kf_ne Ks p3 (by decide))
  have em : sv_put g xb xi xq xm = g xm := sv_put_ne (sv_kf_ne Km p3 (by decide))
  have eg : sv_put g xb xi xq xg = g xg := sv_put_ne (sv_kf_ne Kg p3 (by decide))
  intro f hf
  have hf : f ∈ [(21, [], [(0, [(3, 1)]), (0, [(0, 1)]), (0, [(4, 1)]), (0, [(5, 1)]), (0, [(6, 1)])])] := hf
  simp only [List.mem_cons, List.not_mem_nil, or_false] at hf
  subst hf
  · simp [sv_FQk, sv_FQ, sv_evs, sv_ev, sv_evT, sv_nth, sv_adq, sv_gs, q_Ks_5, q_Q_5]
    refine ⟨⟨⟨bs, Ks⟩, ⟨bb, Kb⟩, ⟨bm, Km⟩, ⟨bg, Kg⟩⟩, ?_⟩
    rw [sv_Qvol_iff]
    simp only [sv_put_eq, es, em, eg]
    intro v v1 v2
    have q := h0 v v1 v2
    try rw [if_neg (by omega : ¬ v = xi)]
    try rw [if_neg (by omega : ¬ 3 * v = xi), if_neg (by omega : ¬ 1 + 3 * v = xi), if_neg (by omega : ¬ 2 + 3 * v = xi)]
    first
      | exact q
      | exact sv_vr_congr (fun c hc => if_neg (by omega)) q
-- vol_sg
def q_m16 : Nat × SvM := (44, ([(0, none), (-1180591620717411303424, none), (-1180591620717411303424, none), (0, none), (0, none), (0, none), (-1180591620717411303424, none)], [(21, [], [(0, [(3, 1)]), (0, [(4, 1)]), (0, [(5, 1)]), (0, [(0, 1)]), (0, [(6, 1)])]), (0, [], [(0, [(1, 1), (6, -1)])])], [(21, [], [(0, [(3, 1)]), (0, [(4, 1)]), (0, [(5, 1)]), (0, [(0, 1)]), (0, [(6, 1)])])]))
theorem q_m16_ok : ∀ (g : Int → Int → Int) (ln : Int → Int) (kf : Int → Nat) (ρ : List Int) (a i x : Int), sv_BOk ρ q_m16.2.1 → (∀ f ∈ q_m16.2.2.1, sv_FQk q_Ks q_Q g ln kf ρ f) → sv_nth ρ 0 = some a → sv_nth ρ 1 = some i → sv_nth ρ 2 = some x → 0 ≤ a → 0 ≤ i → i < ln a → kf a = q_m16.1 → ∀ f ∈ q_m16.2.2.2, sv_FQk q_Ks q_Q (sv_put g a i x) ln kf ρ f := by
  intro g ln kf ρ a i x hb hf n0 n1 n2 p0 p1 p2 p3
  obtain ⟨hl, hb⟩ := hb
  obtain ⟨xg, r0, rfl, l0⟩ := sv_lens hl
  obtain ⟨xi, r1, rfl, l1⟩ := sv_lens l0
  obtain ⟨xq, r2, rfl, l2⟩ := sv_lens l1
  obtain ⟨xs, r3, rfl, l3⟩ := sv_lens l2
  obtain ⟨xb, r4, rfl, l4⟩ := sv_lens l3
  obtain ⟨xm, r5, rfl, l5⟩ := sv_lens l4
  obtain ⟨xn, r6, rfl, l6⟩ := sv_lens l5
  obtain rfl := sv_len0 l6
  clear l0 l1 l2 l3 l4 l5 l6 hl
  have bg : 0 ≤ xg := (hb 0 _ _ rfl rfl).1
  have bs : 0 ≤ xs := (hb 3 _ _ rfl rfl).1
  have bb : 0 ≤ xb := (hb 4 _ _ rfl rfl).1
  have bm : 0 ≤ xm := (hb 5 _ _ rfl rfl).1
  clear hb
  obtain rfl : xg = a := by simpa [sv_nth] using n0
  obtain rfl : xi = i := by simpa [sv_nth] using n1
  obtain rfl : xq = x := by simpa [sv_nth] using n2
  clear n0 n1 n2
  have p3 : kf xg = 44 := p3
  have h0 := hf _ (List.mem_of_getElem? (i := 0) rfl)
  simp [sv_FQk, sv_FQ, sv_evs, sv_ev, sv_evT, sv_nth, sv_adq, sv_gs, q_Ks_5, q_Q_5] at h0
  have h1 := hf _ (List.mem_of_getElem? (i := 1) rfl)
  simp [sv_FQk, sv_FQ, sv_evs, sv_ev, sv_evT, sv_nth, sv_adq, sv_gs] at h1
  clear hf
  obtain ⟨⟨⟨-, Ks⟩, ⟨-, Kb⟩, ⟨-, Km⟩, ⟨-, Kg⟩⟩, h0⟩ := h0
  rw [sv_Qvol_iff] at h0
  have es : sv_put g xg xi xq xs = g xs := sv_put_ne (sv_kf_ne Ks p3 (by decide))
  have eb : sv_put g xg xi xq xb = g xb := sv_put_ne (sv_kf_ne Kb p3 (by decide))
  have em : sv_put g xg xi xq xm = g xm := sv_put_ne (sv_kf_ne Km p3 (by decide))
  intro f hf
  have hf : f ∈ [(21, [], [(0, [(3, 1)]), (0, [(4, 1)]), (0, [(5, 1)]), (0, [(0, 1)]), (0, [(6, 1)])])] := hf
  simp only [List.mem_cons, List.not_mem_nil, or_false] at hf
  subst hf
  · simp [sv_FQk, sv_FQ, sv_evs, sv_ev, sv_evT, sv_nth, sv_adq, sv_gs, q_Ks_5, q_Q_5]
    refine ⟨⟨⟨bs, Ks⟩, ⟨bb, Kb⟩, ⟨bm, Km⟩, ⟨bg, Kg⟩⟩, ?_⟩
    rw [sv_Qvol_iff]
    simp only [sv_put_eq, es, eb, em]
    intro v v1 v2
    have q := h0 v v1 v2
    try rw [if_neg (by omega : ¬ v = xi)]
    try rw [if_neg (by omega : ¬ 3 * v = xi), if_neg (by omega : ¬ 1 + 3 * v = xi), if_neg (by omega : ¬ 2 + 3 * v = xi)]
    first
      | exact q
      | exact sv_vr_congr (fun c hc => if_neg (by omega)) q
-- vol_sm
def q_m17 : Nat × SvM := (46, ([(0, none), (-1180591620717411303424, none), (-1180591620717411303424, none), (0, none), (0, none), (0, none), (-1180591620717411303424, none)], [(21, [], [(0, [(3, 1)]), (0, [(4, 1)]), (0, [(0, 1)]), (0, [(5, 1)]), (0, [(6, 1)])]), (0, [], [(0, [(1, 1), (6, -3)])])], [(21, [], [(0, [(3, 1)]), (0, [(4, 1)]), (0, [(0, 1)]), (0, [(5, 1)]), (0, [(6, 1)])])]))
theorem q_m17_ok : ∀ (g : Int → Int → Int) (ln : Int → Int) (kf : Int → Nat) (ρ : List Int) (a i x : Int), sv_BOk ρ q_m17.2.1 → (∀ f ∈ q_m17.2.2.1, sv_FQk q_Ks q_Q g ln kf ρ f) → sv_nth ρ 0 = some a → sv_nth ρ 1 = some i → sv_nth ρ 2 = some x → 0 ≤ a → 0 ≤ i → i < ln a → kf a = q_m17.1 → ∀ f ∈ q_m17.2.2.2, sv_FQk q_Ks q_Q (sv_put g a i x) ln kf ρ f := by
  intro g ln kf ρ a i x hb hf n0 n1 n2 p0 p1 p2 p3
  obtain ⟨hl, hb⟩ := hb
  obtain ⟨xm, r0, rfl, l0⟩ := sv_lens hl
  obtain ⟨xi, r1, rfl, l1⟩ := sv_lens l0
  obtain ⟨xq, r2, rfl, l2⟩ := sv_lens l1
  obtain ⟨xs, r3, rfl, l3⟩ := sv_lens l2
  obtain ⟨xb, r4, rfl, l4⟩ := sv_lens l3
  obtain ⟨xg, r5, rfl, l5⟩ := sv_lens l4
  obtain ⟨xn, r6, rfl, l6⟩ := sv_lens l5
  obtain rfl := sv_len0 l6
  clear l0 l1 l2 l3 l4 l5 l6 hl
  have bm : 0 ≤ xm := (hb 0 _ _ rfl rfl).1
  have bs : 0 ≤ xs := (hb 3 _ _ rfl rfl).1
  have bb : 0 ≤ xb := (hb 4 _ _ rfl rfl).1
  have bg : 0 ≤ xg := (hb 5 _ _ rfl rfl).1
  clear hb
  obtain rfl : xm = a := by simpa [sv_nth] using n0
  obtain rfl : xi = i := by simpa [sv_nth] using n1
  obtain rfl : xq = x := by simpa [sv_nth] using n2
  clear n0 n1 n2
  have p3 : kf xm = 46 := p3
  have h0 := hf _ (List.mem_of_getElem? (i := 0) rfl)
  simp [sv_FQk, sv_FQ, sv_evs, sv_ev, sv_evT, sv_nth, sv_adq, sv_gs, q_Ks_5, q_Q_5] at h0
  have h1 := hf _ (List.mem_of_getElem? (i := 1) rfl)
  simp [sv_FQk, sv_FQ, sv_evs, sv_ev, sv_evT, sv_nth, sv_adq, sv_gs] at h1
  clear hf
  obtain ⟨⟨⟨-, Ks⟩, ⟨-, Kb⟩, ⟨-, Km⟩, ⟨-, Kg⟩⟩, h0⟩ := h0
  rw [sv_Qvol_iff] at h0
  have es : sv_put g xm xi xq xs = g xs := sv_put_ne (sv_kf_ne Ks p3 (by decide))
  have eb : sv_put g xm xi xq xb = g xb := sv_put_ne (sv_kf_ne Kb p3 (by decide))
  have eg : sv_put g xm xi xq xg = g xg := sv_put_ne (sv_kf_ne Kg p3 (by decide))
  intro f hf
  have hf : f ∈ [(21, [], [(0, [(3, 1)]), (0, [(4, 1)]), (0, [(0, 1)]), (0, [(5, 1)]), (0, [(6, 1)])])] := hf
  simp only [List.mem_cons, List.not_mem_nil, or_false] at hf
  subst hf
  · simp [sv_FQk, sv_FQ, sv_evs, sv_ev, sv_evT, sv_nth, sv_adq, sv_gs, q_Ks_5, q_Q_5]
    refine ⟨⟨⟨bs, Ks⟩, ⟨bb, Kb⟩, ⟨bm, Km⟩, ⟨bg, Kg⟩⟩, ?_⟩
    rw [sv_Qvol_iff]
    simp only [sv_put_eq, es, eb, eg]
    intro v v1 v2
    have q := h0 v v1 v2
    try rw [if_neg (by omega : ¬ v = xi)]
    try rw [if_neg (by omega : ¬ 3 * v = xi), if_neg (by omega : ¬ 1 + 3 * v = xi), if_neg (by omega : ¬ 2 + 3 * v = xi)]
    first
      | exact q
      | exact sv_vr_congr (fun c hc => if_neg (by omega)) q
-- vok_sb
def q_m18 : Nat × SvM := (45, ([(0, none), (-1180591620717411303424, none), (-1180591620717411303424, none), (0, none), (0, none), (-1180591620717411303424, none), (-1180591620717411303424, none), (-1180591620717411303424, none)], [(22, [], [(0, [(0, 1)]), (0, [(3, 1)]), (0, [(4, 1)]), (0, [(5, 1)]), (0, [(6, 1)]), (0, [(7, 1)])]), (0, [], [(0, [(1, 1), (5, -1)])])], [(22, [], [(0, [(0, 1)]), (0, [(3, 1)]), (0, [(4, 1)]), (0, [(5, 1)]), (0, [(6, 1)]), (0, [(7, 1)])])]))
theorem q_m18_ok : ∀ (g : Int → Int → Int) (ln : Int → Int) (kf : Int → Nat) (ρ : List Int) (a i x : Int), sv_BOk ρ q_m18.2.1 → (∀ f ∈ q_m18.2.2.1, sv_FQk q_Ks q_Q g ln kf ρ f) → sv_nth ρ 0 = some a → sv_nth ρ 1 = some i → sv_nth ρ 2 = some x → 0 ≤ a → 0 ≤ i → i < ln a → kf a = q_m18.1 → ∀ f ∈ q_m18.2.2.2, sv_FQk q_Ks q_Q (sv_put g a i x) ln kf ρ f := by
  intro g ln kf ρ a i x hb hf n0 n1 n2 p0 p1 p2 p3
  obtain ⟨hl, hb⟩ := hb
  obtain ⟨xb, r0, rfl, l0⟩ := sv_lens hl
  obtain ⟨xi, r1, rfl, l1⟩ := sv_lens l0
  obtain ⟨xq, r2, rfl, l2⟩ := sv_lens l1
  obtain ⟨xm, r3, rfl, l3⟩ := sv_lens l2
  obtain ⟨xg, r4, rfl, l4⟩ := sv_lens l3
  obtain ⟨xv, r5, rfl, l5⟩ := sv_lens l4
  obtain ⟨xk, r6, rfl, l6⟩ := sv_lens l5
  obtain ⟨xy, r7, rfl, l7⟩ := sv_lens l6
  obtain rfl := sv_len0 l7
  clear l0 l1 l2 l3 l4 l5 l6 l7 hl
  have bb : 0 ≤ xb := (hb 0 _ _ rfl rfl).1
  have bm : 0 ≤ xm := (hb 3 _ _ rfl rfl).1
  have bg : 0 ≤ xg := (hb 4 _ _ rfl rfl).1
  clear hb
  obtain rfl : xb = a := by simpa [sv_nth] using n0
  obtain rfl : xi = i := by simpa [sv_nth] using n1
  obtain rfl : xq = x := by simpa [sv_nth] using n2
  clear n0 n1 n2
  have p3 : kf xb = 45 := p3
  have h0 := hf _ (List.mem_of_getElem? (i := 0) rfl)
  simp [sv_FQk, sv_FQ, sv_evs, sv_ev, sv_evT, sv_nth, sv_adq, sv_gs, q_Ks_6, q_Q_6] at h0
  have h1 := hf _ (List.mem_of_getElem? (i := 1) rfl)
  simp [sv_FQk, sv_FQ, sv_evs, sv_ev, sv_evT, sv_nth, sv_adq, sv_gs] at h1
  clear hf
  obtain ⟨⟨⟨-, Kb⟩, ⟨-, Km⟩, ⟨-, Kg⟩⟩, h0⟩ := h0
  rw [sv_Qvok_iff] at h0
  have em : sv_put g xb xi xq xm = g xm := sv_put_ne (sv_kf_ne Km p3 (by decide))
  have eg : sv_put g xb xi xq xg = g xg := sv_put_ne (sv_kf_ne Kg p3 (by decide))
  intro f hf
  have hf : f ∈ [(22, [], [(0, [(0, 1)]), (0, [(3, 1)]), (0, [(4, 1)]), (0, [(5, 1)]), (0, [(6, 1)]), (0, [(7, 1)])])] := hf
  simp only [List.mem_cons, List.not_mem_nil, or_false] at hf
  subst hf
  · simp [sv_FQk, sv_FQ, sv_evs, sv_ev, sv_evT, sv_nth, sv_adq, sv_gs, q_Ks_6, q_Q_6]
    refine ⟨⟨⟨bb, Kb⟩, ⟨bm, Km⟩, ⟨bg, Kg⟩⟩, ?_⟩
    rw [sv_Qvok_iff]
    simp only [sv_put_eq, em, eg]
    exact sv_vr_congr (fun c hc => if_neg (by omega)) h0
-- wb_s1
def q_m19 : Nat × SvM := (58, ([(0, none), (-1180591620717411303424, none), (-1180591620717411303424, none), (0, none), (0, none), (-1180591620717411303424, none), (-1180591620717411303424, none)], [(23, [], [(0, [(0, 1)]), (0, [(3, 1)]), (0, [(4, 1)]), (0, [(5, 1)]), (0, [(6, 1)])]), (0, [], [(0, [(1, 1), (5, -1)])])], [(23, [], [(0, [(0, 1)]), (0, [(3, 1)]), (0, [(4, 1)]), (0, [(5, 1)]), (0, [(6, 1)])])]))
theorem q_m19_ok : ∀ (g : Int → Int → Int) (ln : Int → Int) (kf : Int → Nat) (ρ : List Int) (a i x : Int), sv_BOk ρ q_m19.2.1 → (∀ f ∈ q_m19.2.2.1, sv_FQk q_Ks q_Q g ln kf ρ f) → sv_nth ρ 0 = some a → sv_nth ρ 1 = some i → sv_nth ρ 2 = some x → 0 ≤ a → 0 ≤ i → i < ln a → kf a = q_m19.1 → ∀ f ∈ q_m19.2.2.2, sv_FQk q_Ks q_Q (sv_put g a i x) ln kf ρ f := by
  intro g ln kf ρ a i x hb hf n0 n1 n2 p0 p1 p2 p3
  obtain ⟨hl, hb⟩ := hb
  obtain ⟨xa, r0, rfl, l0⟩ := sv_lens hl
  obtain ⟨xi, r1, rfl, l1⟩ := sv_lens l0
  obtain ⟨xq, r2, rfl, l2⟩ := sv_lens l1
  obtain ⟨xb, r3, rfl, l3⟩ := sv_lens l2
  obtain ⟨xc, r4, rfl, l4⟩ := sv_lens l3
  obtain ⟨xn, r5, rfl, l5⟩ := sv_lens l4
  obtain ⟨xw, r6, rfl, l6⟩ := sv_lens l5
  obtain rfl := sv_len0 l6
  clear l0 l1 l2 l3 l4 l5 l6 hl
  have ba : 0 ≤ xa := (hb 0 _ _ rfl rfl).1
  have bb : 0 ≤ xb := (hb 3 _ _ rfl rfl).1
  have bc : 0 ≤ xc := (hb 4 _ _ rfl rfl).1
  clear hb
  obtain rfl : xa = a := by simpa [sv_nth] using n0
  obtain rfl : xi = i := by simpa [sv_nth] using n1
  obtain rfl : xq = x := by simpa [sv_nth] using n2
  clear n0 n1 n2
  have p3 : kf xa = 58 := p3
  have h0 := hf _ (List.mem_of_getElem? (i := 0) rfl)
  simp [sv_FQk, sv_FQ, sv_evs, sv_ev, sv_evT, sv_nth, sv_adq, sv_gs, q_Ks_7, q_Q_7] at h0
  have h1 := hf _ (List.mem_of_getElem? (i := 1) rfl)
  simp [sv_FQk, sv_FQ, sv_evs, sv_ev, sv_evT, sv_nth, sv_adq, sv_gs] at h1
  clear hf
  obtain ⟨⟨⟨-, Ka⟩, ⟨-, Kb⟩, ⟨-, Kc⟩⟩, h0⟩ := h0
  rw [sv_Qwb_iff] at h0
  have eb : sv_put g xa xi xq xb = g xb := sv_put_ne (sv_kf_ne Kb p3 (by decide))
  have ec : sv_put g xa xi xq xc = g xc := sv_put_ne (sv_kf_ne Kc p3 (by decide))
  intro f hf
  have hf : f ∈ [(23, [], [(0, [(0, 1)]), (0, [(3, 1)]), (0, [(4, 1)]), (0, [(5, 1)]), (0, [(6, 1)])])] := hf
  simp only [List.mem_cons, List.not_mem_nil, or_false] at hf
  subst hf
  · simp [sv_FQk, sv_FQ, sv_evs, sv_ev, sv_evT, sv_nth, sv_adq, sv_gs, q_Ks_7, q_Q_7]
    refine ⟨⟨⟨ba, Ka⟩, ⟨bb, Kb⟩, ⟨bc, Kc⟩⟩, ?_⟩
    rw [sv_Qwb_iff]
    simp only [sv_put_eq, eb, ec]
    intro j j1 j2
    rw [if_neg (by omega)]
    exact h0 j j1 j2
-- wb_s2
def q_m20 : Nat × SvM := (59, ([(0, none), (-1180591620717411303424, none), (-1180591620717411303424, none), (0, none), (0, none), (-1180591620717411303424, none), (-1180591620717411303424, none)], [(23, [], [(0, [(3, 1)]), (0, [(0, 1)]), (0, [(4, 1)]), (0, [(5, 1)]), (0, [(6, 1)])]), (0, [], [(0, [(1, 1), (5, -1)])])], [(23, [], [(0, [(3, 1)]), (0, [(0, 1)]), (0, [(4, 1)]), (0, [(5, 1)]), (0, [(6, 1)])])]))
theorem q_m20_ok : ∀ (g : Int → Int → Int) (ln : Int → Int) (kf : Int → Nat) (ρ : List Int) (a i x : Int), sv_BOk ρ q_m20.2.1 → (∀ f ∈ q_m20.2.2.1, sv_FQk q_Ks q_Q g ln kf ρ f) → sv_nth ρ 0 = some a → sv_nth ρ 1 = some i → sv_nth ρ 2 = some x → 0 ≤ a → 0 ≤ i → i < ln a → kf a = q_m20.1 → ∀ f ∈ q_m20.2.2.2, sv_FQk q_Ks q_Q (sv_put g a i x) ln kf ρ f := by
  intro g ln kf ρ a i x hb hf n0 n1 n2 p0 p1 p2 p3
  obtain ⟨hl, hb⟩ := hb
  obtain ⟨xb, r0, rfl, l0⟩ := sv_lens hl
  obtain ⟨xi, r1, rfl, l1⟩ := sv_lens l0
  obtain ⟨xq, r2, rfl, l2⟩ := sv_lens l1
  obtain ⟨xa, r3, rfl, l3⟩ := sv_lens l2
  obtain ⟨xc, r4, rfl, l4⟩ := sv_lens l3
  obtain ⟨xn, r5, rfl, l5⟩ := sv_lens l4
  obtain ⟨xw, r6, rfl, l6⟩ := sv_lens l5
  obtain rfl := sv_len0 l6
  clear l0 l1 l2 l3 l4 l5 l6 hl
  have bb : 0 ≤ xb := (hb 0 _ _ rfl rfl).1
  have ba : 0 ≤ xa := (hb 3 _ _ rfl rfl).1
  have bc : 0 ≤ xc := (hb 4 _ _ rfl rfl).1
  clear hb
  obtain rfl : xb = a := by simpa [sv_nth] using n0
  obtain rfl : xi = i := by simpa [sv_nth] using n1
  obtain rfl : xq = x := by simpa [sv_nth] using n2
  clear n0 n1 n2
  have p3 : kf xb = 59 := p3
  have h0 := hf _ (List.mem_of_getElem? (i := 0) rfl)
  simp [sv_FQk, sv_FQ, sv_evs, sv_ev, sv_evT, sv_nth, sv_adq, sv_gs, q_Ks_7, q_Q_7] at h0
  have h1 := hf _ (List.mem_of_getElem? (i := 1) rfl)
  simp [sv_FQk, sv_FQ, sv_evs, sv_ev, sv_evT, sv_nth, sv_adq, sv_gs] at h1
  clear hf
  obtain ⟨⟨⟨-, Ka⟩, ⟨-, Kb⟩, ⟨-, Kc⟩⟩, h0⟩ := h0
  rw [sv_Qwb_iff] at h0
  have ea : sv_put g xb xi xq xa = g xa := sv_put_ne (sv_kf_ne Ka p3 (by decide))
  have ec : sv_put g xb xi xq xc = g xc := sv_put_ne (sv_kf_ne Kc p3 (by decide))
  intro f hf
  have hf : f ∈ [(23, [], [(0, [(3, 1)]), (0, [(0, 1)]), (0, [(4, 1)]), (0, [(5, 1)]), (0, [(6, 1)])])] := hf
  simp only [List.mem_cons, List.not_mem_nil, or_false] at hf
  subst hf
  · simp [sv_FQk, sv_FQ, sv_evs, sv_ev, sv_evT, sv_nth, sv_adq, sv_gs, q_Ks_7, q_Q_7]
    refine ⟨⟨⟨ba, Ka⟩, ⟨bb, Kb⟩, ⟨bc, Kc⟩⟩, ?_⟩
    rw [sv_Qwb_iff]
    simp only [sv_put_eq, ea, ec]
    intro j j1 j2
    rw [if_neg (by omega)]
    exact h0 j j1 j2
-- sm_s
def q_m21 : Nat × SvM := (58, ([(0, none), (-1180591620717411303424, none), (-1180591620717411303424, none), (-1180591620717411303424, none), (-1180591620717411303424, none), (-1180591620717411303424, none)], [(25, [], [(0, [(0, 1)]), (0, [(3, 1)]), (0, [(4, 1)])]), (24, [], [(0, [(2, 1)]), (0, [(5, 1)])]), (0, [], [(0, [(1, -1), (3, 1)])]), (0, [], [(0, [(1, 1), (3, -1)])]), (0, [], [(0, [(3, 1)])])], [(25, [], [(0, [(0, 1)]), (1, [(3, 1)]), (0, [(4, 1), (5, 1)])])]))
theorem q_m21_ok : ∀ (g : Int → Int → Int) (ln : Int → Int) (kf : Int → Nat) (ρ : List Int) (a i x : Int), sv_BOk ρ q_m21.2.1 → (∀ f ∈ q_m21.2.2.1, sv_FQk q_Ks q_Q g ln kf ρ f) → sv_nth ρ 0 = some a → sv_nth ρ 1 = some i → sv_nth ρ 2 = some x → 0 ≤ a → 0 ≤ i → i < ln a → kf a = q_m21.1 → ∀ f ∈ q_m21.2.2.2, sv_FQk q_Ks q_Q (sv_put g a i x) ln kf ρ f := by
  intro g ln kf ρ a i x hb hf n0 n1 n2 p0 p1 p2 p3
  obtain ⟨hl, hb⟩ := hb
  obtain ⟨xa, r0, rfl, l0⟩ := sv_lens hl
  obtain ⟨xi, r1, rfl, l1⟩ := sv_lens l0
  obtain ⟨xx, r2, rfl, l2⟩ := sv_lens l1
  obtain ⟨xn, r3, rfl, l3⟩ := sv_lens l2
  obtain ⟨xs, r4, rfl, l4⟩ := sv_lens l3
  obtain ⟨xe, r5, rfl, l5⟩ := sv_lens l4
  obtain rfl := sv_len0 l5
  clear l0 l1 l2 l3 l4 l5 hl
  have ba : 0 ≤ xa := (hb 0 _ _ rfl rfl).1
  clear hb
  obtain rfl : xa = a := by simpa [sv_nth] using n0
  obtain rfl : xi = i := by simpa [sv_nth] using n1
  obtain rfl : xx = x := by simpa [sv_nth] using n2
  clear n0 n1 n2
  have p3 : kf xa = 58 := p3
  have h0 := hf _ (List.mem_of_getElem? (i := 0) rfl)
  simp [sv_FQk, sv_FQ, sv_evs, sv_ev, sv_evT, sv_nth, sv_adq, sv_gs, q_Ks_9, q_Q_9] at h0
  have h1 := hf _ (List.mem_of_getElem? (i := 1) rfl)
  simp [sv_FQk, sv_FQ, sv_evs, sv_ev, sv_evT, sv_nth, sv_adq, sv_gs, q_Ks_8, q_Q_8] at h1
  have h2 := hf _ (List.mem_of_getElem? (i := 2) rfl)
  simp [sv_FQk, sv_FQ, sv_evs, sv_ev, sv_evT, sv_nth, sv_adq, sv_gs] at h2
  have h3 := hf _ (List.mem_of_getElem? (i := 3) rfl)
  simp [sv_FQk, sv_FQ, sv_evs, sv_ev, sv_evT, sv_nth, sv_adq, sv_gs] at h3
  have h4 := hf _ (List.mem_of_getElem? (i := 4) rfl)
  simp [sv_FQk, sv_FQ, sv_evs, sv_ev, sv_evT, sv_nth, sv_adq, sv_gs] at h4
  clear hf
  obtain ⟨⟨-, Ka⟩, h0⟩ := h0
  rw [sv_Qsm_iff] at h0
  rw [sv_Qpw_iff] at h1
  intro f hf
  have hf : f ∈ [(25, [], [(0, [(0, 1)]), (1, [(3, 1)]), (0, [(4, 1), (5, 1)])])] := hf
  simp only [List.mem_cons, List.not_mem_nil, or_false] at hf
  subst hf
  · simp [sv_FQk, sv_FQ, sv_evs, sv_ev, sv_evT, sv_nth, sv_adq, sv_gs, q_Ks_9, q_Q_9]
    refine ⟨⟨ba, Ka⟩, ?_⟩
    rw [sv_Qsm_iff]
    simp only [sv_put_eq]
    rw [sv_sum_step2 (by omega)]
    rw [sv_sum_congr (g := fun i => sv_pow3 (g xa i)) (fun j j1 j2 => by rw [if_neg (by omega)])]
    rw [if_pos (by omega), ← h1]
    omega
-- sm_o
def q_m22 : Nat × SvM := (58, ([(0, none), (-1180591620717411303424, none), (-1180591620717411303424, none), (-1180591620717411303424, none), (-1180591620717411303424, none)], [(25, [], [(0, [(0, 1)]), (0, [(3, 1)]), (0, [(4, 1)])]), (0, [], [(0, [(1, 1), (3, -1)])])], [(25, [], [(0, [(0, 1)]), (0, [(3, 1)]), (0, [(4, 1)])])]))
theorem q_m22_ok : ∀ (g : Int → Int → Int) (ln : Int → Int) (kf : Int → Nat) (ρ : List Int) (a i x : Int), sv_BOk ρ q_m22.2.1 → (∀ f ∈ q_m22.2.2.1, sv_FQk q_Ks q_Q g ln kf ρ f) → sv_nth ρ 0 = some a → sv_nth ρ 1 = some i → sv_nth ρ 2 = some x → 0 ≤ a → 0 ≤ i → i < ln a → kf a = q_m22.1 → ∀ f ∈ q_m22.2.2.2, sv_FQk q_Ks q_Q (sv_put g a i x) ln kf ρ f := by
  intro g ln kf ρ a i x hb hf n0 n1 n2 p0 p1 p2 p3
  obtain ⟨hl, hb⟩ := hb
  obtain ⟨xa, r0, rfl, l0⟩ := sv_lens hl
  obtain ⟨xi, r1, rfl, l1⟩ := sv_lens l0
  obtain ⟨xx, r2, rfl, l2⟩ := sv_lens l1
  obtain ⟨xn, r3, rfl, l3⟩ := sv_lens l2
  obtain ⟨xs, r4, rfl, l4⟩ := sv_lens l3
  obtain rfl := sv_len0 l4
  clear l0 l1 l2 l3 l4 hl
  have ba : 0 ≤ xa := (hb 0 _ _ rfl rfl).1
  clear hb
  obtain rfl : xa = a := by simpa [sv_nth] using n0
  obtain rfl : xi = i := by simpa [sv_nth] using n1
  obtain rfl : xx = x := by simpa [sv_nth] using n2
  clear n0 n1 n2
  have p3 : kf xa = 58 := p3
  have h0 := hf _ (List.mem_of_getElem? (i := 0) rfl)
  simp [sv_FQk, sv_FQ, sv_evs, sv_ev, sv_evT, sv_nth, sv_adq, sv_gs, q_Ks_9, q_Q_9] at h0
  have h1 := hf _ (List.mem_of_getElem? (i := 1) rfl)
  simp [sv_FQk, sv_FQ, sv_evs, sv_ev, sv_evT, sv_nth, sv_adq, sv_gs] at h1
  clear hf
  obtain ⟨⟨-, Ka⟩, h0⟩ := h0
  rw [sv_Qsm_iff] at h0
  intro f hf
  have hf : f ∈ [(25, [], [(0, [(0, 1)]), (0, [(3, 1)]), (0, [(4, 1)])])] := hf
  simp only [List.mem_cons, List.not_mem_nil, or_false] at hf
  subst hf
  · simp [sv_FQk, sv_FQ, sv_evs, sv_ev, sv_evT, sv_nth, sv_adq, sv_gs, q_Ks_9, q_Q_9]
    refine ⟨⟨ba, Ka⟩, ?_⟩
    rw [sv_Qsm_iff]
    simp only [sv_put_eq]
    rw [sv_sum_congr (g := fun i => sv_pow3 (g xa i)) (fun j j1 j2 => by rw [if_neg (by omega)])]
    exact h0
-- en_s1
def q_m23 : Nat × SvM := (106, ([(0, none), (-1180591620717411303424, none), (-1180591620717411303424, none), (0, none), (-1180591620717411303424, none), (-1180591620717411303424, none), (-1180591620717411303424, none), (-1180591620717411303424, none), (-1180591620717411303424, none), (-1180591620717411303424, none)], [(26, [], [(0, [(0, 1)]), (0, [(3, 1)]), (0, [(6, 1)]), (0, [(7, 1)]), (0, [(8, 1)]), (0, [(9, 1)])]), (4, [107, 1], [(0, [(3, 1)]), (0, [(1, 1)]), (0, [(4, 1)])]), (2, [], [(0, [(3, 1)]), (0, [(5, 1)])]), (0, [], [(0, [(1, 1)])]), (0, [], [(-1, [(1, -1), (5, 1)])]), (0, [], [(0, [(1, -1), (7, 1)])]), (0, [], [(0, [(1, 1), (7, -1)])]), (0, [], [(0, [(2, 1), (4, 1), (8, -1)])]), (0, [], [(0, [(2, -1), (4, -1), (9, 1)])])], [(26, [], [(0, [(0, 1)]), (0, [(3, 1)]), (0, [(6, 1)]), (1, [(7, 1)]), (0, [(8, 1)]), (0, [(9, 1)])])]))
theorem q_m23_ok : ∀ (g : Int → Int → Int) (ln : Int → Int) (kf : Int → Nat) (ρ : List Int) (a i x : Int), sv_BOk ρ q_m23.2.1 → (∀ f ∈ q_m23.2.2.1, sv_FQk q_Ks q_Q g ln kf ρ f) → sv_nth ρ 0 = some a → sv_nth ρ 1 = some i → sv_nth ρ 2 = some x → 0 ≤ a → 0 ≤ i → i < ln a → kf a = q_m23.1 → ∀ f ∈ q_m23.2.2.2, sv_FQk q_Ks q_Q (sv_put g a i x) ln kf ρ f := by
  intro g ln kf ρ a i x hb hf n0 n1 n2 p0 p1 p2 p3
  obtain ⟨hl, hb⟩ := hb
  obtain ⟨xa, r0, rfl, l0⟩ := sv_lens hl
  obtain ⟨xi, r1, rfl, l1⟩ := sv_lens l0
  obtain ⟨xx, r2, rfl, l2⟩ := sv_lens l1
  obtain ⟨xb, r3, rfl, l3⟩ := sv_lens l2
  obtain ⟨xy, r4, rfl, l4⟩ := sv_lens l3
  obtain ⟨xM, r5, rfl, l5⟩ := sv_lens l4
  obtain ⟨xlo, r6, rfl, l6⟩ := sv_lens l5
  obtain ⟨xhi, r7, rfl, l7⟩ := sv_lens l6
  obtain ⟨xl, r8, rfl, l8⟩ := sv_lens l7
  obtain ⟨xu, r9, rfl, l9⟩ := sv_lens l8
  obtain rfl := sv_len0 l9
  clear l0 l1 l2 l3 l4 l5 l6 l7 l8 l9 hl
  have ba : 0 ≤ xa := (hb 0 _ _ rfl rfl).1
  have bb : 0 ≤ xb := (hb 3 _ _ rfl rfl).1
  clear hb
  obtain rfl : xa = a := by simpa [sv_nth] using n0
  obtain rfl : xi = i := by simpa [sv_nth] using n1
  obtain rfl : xx = x := by simpa [sv_nth] using n2
  clear n0 n1 n2
  have p3 : kf xa = 106 := p3
  have h0 := hf _ (List.mem_of_getElem? (i := 0) rfl)
  simp [sv_FQk, sv_FQ, sv_evs, sv_ev, sv_evT, sv_nth, sv_adq, sv_gs, q_Ks_10, q_Q_10] at h0
  have h1 := hf _ (List.mem_of_getElem? (i := 1) rfl)
  simp [sv_FQk, sv_FQ, sv_evs, sv_ev, sv_evT, sv_nth, sv_adq, sv_gs] at h1
  have h2 := hf _ (List.mem_of_getElem? (i := 2) rfl)
  simp [sv_FQk, sv_FQ, sv_evs, sv_ev, sv_evT, sv_nth, sv_adq, sv_gs] at h2
  have h3 := hf _ (List.mem_of_getElem? (i := 3) rfl)
  simp [sv_FQk, sv_FQ, sv_evs, sv_ev, sv_evT, sv_nth, sv_adq, sv_gs] at h3
  have h4 := hf _ (List.mem_of_getElem? (i := 4) rfl)
  simp [sv_FQk, sv_FQ, sv_evs, sv_ev, sv_evT, sv_nth, sv_adq, sv_gs] at h4
  have h5 := hf _ (List.mem_of_getElem? (i := 5) rfl)
  simp [sv_FQk, sv_FQ, sv_evs, sv_ev, sv_evT, sv_nth, sv_adq, sv_gs] at h5
  have h6 := hf _ (List.mem_of_getElem? (i := 6) rfl)
  simp [sv_FQk, sv_FQ, sv_evs, sv_ev, sv_evT, sv_nth, sv_adq, sv_gs] at h6
  have h7 := hf _ (List.mem_of_getElem? (i := 7) rfl)
  simp [sv_FQk, sv_FQ, sv_evs, sv_ev, sv_evT, sv_nth, sv_adq, sv_gs] at h7
  have h8 := hf _ (List.mem_of_getElem? (i := 8) rfl)
  simp [sv_FQk, sv_FQ, sv_evs, sv_ev, sv_evT, sv_nth, sv_adq, sv_gs] at h8
  clear hf
  obtain ⟨⟨⟨-, Ka⟩, ⟨-, Kb⟩⟩, h0⟩ := h0
  rw [sv_Qlin2_iff] at h0
  replace h1 := h1 bb (by omega) (by have := h2 bb; omega)
  have eb : sv_put g xa xi xx xb = g xb := sv_put_ne (sv_kf_ne Kb p3 (by decide))
  intro f hf
  have hf : f ∈ [(26, [], [(0, [(0, 1)]), (0, [(3, 1)]), (0, [(6, 1)]), (1, [(7, 1)]), (0, [(8, 1)]), (0, [(9, 1)])])] := hf
  simp only [List.mem_cons, List.not_mem_nil, or_false] at hf
  subst hf
  · simp [sv_FQk, sv_FQ, sv_evs, sv_ev, sv_evT, sv_nth, sv_adq, sv_gs, q_Ks_10, q_Q_10]
    refine ⟨⟨⟨ba, Ka⟩, ⟨bb, Kb⟩⟩, ?_⟩
    rw [sv_Qlin2_iff]
    simp only [sv_put_eq, eb]
    intro j j1 j2
    by_cases e : j = xi
    · rw [if_pos e, e, h1]
      omega
    · rw [if_neg e]
      exact h0 j j1 (by omega)
-- en_s2
def q_m24 : Nat × SvM := (107, ([(0, none), (-1180591620717411303424, none), (-1180591620717411303424, none), (0, none), (-1180591620717411303424, none), (-1180591620717411303424, none), (-1180591620717411303424, none), (-1180591620717411303424, none), (-1180591620717411303424, none), (-1180591620717411303424, none)], [(26, [], [(0, [(3, 1)]), (0, [(0, 1)]), (0, [(6, 1)]), (0, [(7, 1)]), (0, [(8, 1)]), (0, [(9, 1)])]), (4, [106, 1], [(0, [(3, 1)]), (0, [(1, 1)]), (0, [(4, 1)])]), (2, [], [(0, [(3, 1)]), (0, [(5, 1)])]), (0, [], [(0, [(1, 1)])]), (0, [], [(-1, [(1, -1), (5, 1)])]), (0, [], [(0, [(1, -1), (7, 1)])]), (0, [], [(0, [(1, 1), (7, -1)])]), (0, [], [(0, [(2, 1), (4, 1), (8, -1)])]), (0, [], [(0, [(2, -1), (4, -1), (9, 1)])])], [(26, [], [(0, [(3, 1)]), (0, [(0, 1)]), (0, [(6, 1)]), (1, [(7, 1)]), (0, [(8, 1)]), (0, [(9, 1)])])]))
theorem q_m24_ok : ∀ (g : Int → Int → Int) (ln : Int → Int) (kf : Int → Nat) (ρ : List Int) (a i x : Int), sv_BOk ρ q_m24.2.1 → (∀ f ∈ q_m24.2.2.1, sv_FQk q_Ks q_Q g ln kf ρ f) → sv_nth ρ 0 = some a → sv_nth ρ 1 = some i → sv_nth ρ 2 = some x → 0 ≤ a → 0 ≤ i → i < ln a → kf a = q_m24.1 → ∀ f ∈ q_m24.2.2.2, sv_FQk q_Ks q_Q (sv_put g a i x) ln kf ρ f := by
  intro g ln kf ρ a i x hb hf n0 n1 n2 p0 p1 p2 p3
  obtain ⟨hl, hb⟩ := hb
  obtain ⟨xb, r0, rfl, l0⟩ := sv_lens hl
  obtain ⟨xi, r1, rfl, l1⟩ := sv_lens l0
  obtain ⟨xy, r2, rfl, l2⟩ := sv_lens l1
  obtain ⟨xa, r3, rfl, l3⟩ := sv_lens l2
  obtain ⟨xx, r4, rfl, l4⟩ := sv_lens l3
  obtain ⟨xN, r5, rfl, l5⟩ := sv_lens l4
  obtain ⟨xlo, r6, rfl, l6⟩ := sv_lens l5
  obtain ⟨xhi, r7, rfl, l7⟩ := sv_lens l6
  obtain ⟨xl, r8, rfl, l8⟩ := sv_lens l7
  obtain ⟨xu, r9, rfl, l9⟩ := sv_lens l8
  obtain rfl := sv_len0 l9
  clear l0 l1 l2 l3 l4 l5 l6 l7 l8 l9 hl
  have bb : 0 ≤ xb := (hb 0 _ _ rfl rfl).1
  have ba : 0 ≤ xa := (hb 3 _ _ rfl rfl).1
  clear hb
  obtain rfl : xb = a := by simpa [sv_nth] using n0
  obtain rfl : xi = i := by simpa [sv_nth] using n1
  obtain rfl : xy = x := by simpa [sv_nth] using n2
  clear n0 n1 n2
  have p3 : kf xb = 107 := p3
  have h0 := hf _ (List.mem_of_getElem? (i := 0) rfl)
  simp [sv_FQk, sv_FQ, sv_evs, sv_ev, sv_evT, sv_nth, sv_adq, sv_gs, q_Ks_10, q_Q_10] at h0
  have h1 := hf _ (List.mem_of_getElem? (i := 1) rfl)
  simp [sv_FQk, sv_FQ, sv_evs, sv_ev, sv_evT, sv_nth, sv_adq, sv_gs] at h1
  have h2 := hf _ (List.mem_of_getElem? (i := 2) rfl)
  simp [sv_FQk, sv_FQ, sv_evs, sv_ev, sv_evT, sv_nth, sv_adq, sv_gs] at h2
  have h3 := hf _ (List.mem_of_getElem? (i := 3) rfl)
  simp [sv_FQk, sv_FQ, sv_evs, sv_ev, sv_evT, sv_nth, sv_adq, sv_gs] at h3
  have h4 := hf _ (List.mem_of_getElem? (i := 4) rfl)
  simp [sv_FQk, sv_FQ, sv_evs, sv_ev, sv_evT, sv_nth, sv_adq, sv_gs] at h4
  have h5 := hf _ (List.mem_of_getElem? (i := 5) rfl)
  simp [sv_FQk, sv_FQ, sv_evs, sv_ev, sv_evT, sv_nth, sv_adq, sv_gs] at h5
  have h6 := hf _ (List.mem_of_getElem? (i := 6) rfl)
  simp [sv_FQk, sv_FQ, sv_evs, sv_ev, sv_evT, sv_nth, sv_adq, sv_gs] at h6
  have h7 := hf _ (List.mem_of_getElem? (i := 7) rfl)
  simp [sv_FQk, sv_FQ, sv_evs, sv_ev, sv_evT, sv_nth, sv_adq, sv_gs] at h7
  have h8 := hf _ (List.mem_of_getElem? (i := 8) rfl)
  simp [sv_FQk, sv_FQ, sv_evs, sv_ev, sv_evT, sv_nth, sv_adq, sv_gs] at h8
  clear hf
  obtain ⟨⟨⟨-, Ka⟩, ⟨-, Kb⟩⟩, h0⟩ := h0
  rw [sv_Qlin2_iff] at h0
  replace h1 := h1 ba (by omega) (by have := h2 ba; omega)
  have ea : sv_put g xb xi xy xa = g xa := sv_put_ne (sv_kf_ne Ka p3 (by decide))
  intro f hf
  have hf : f ∈ [(26, [], [(0, [(3, 1)]), (0, [(0, 1)]), (0, [(6, 1)]), (1, [(7, 1)]), (0, [(8, 1)]), (0, [(9, 1)])])] := hf
  simp only [List.mem_cons, List.not_mem_nil, or_false] at hf
  subst hf
  · simp [sv_FQk, sv_FQ, sv_evs, sv_ev, sv_evT, sv_nth, sv_adq, sv_gs, q_Ks_10, q_Q_10]
    refine ⟨⟨⟨ba, Ka⟩, ⟨bb, Kb⟩⟩, ?_⟩
    rw [sv_Qlin2_iff]
    simp only [sv_put_eq, ea]
    intro j j1 j2
    by_cases e : j = xi
    · rw [if_pos e, e, h1]
      omega
    · rw [if_neg e]
      exact h0 j j1 (by omega)
-- en_o1
def q_m25 : Nat × SvM := (106, ([(0, none), (-1180591620717411303424, none), (-1180591620717411303424, none), (0, none), (-1180591620717411303424, none), (-1180591620717411303424, none), (-1180591620717411303424, none), (-1180591620717411303424, none)], [(26, [], [(0, [(0, 1)]), (0, [(3, 1)]), (0, [(4, 1)]), (0, [(5, 1)]), (0, [(6, 1)]), (0, [(7, 1)])]), (0, [], [(0, [(1, 1), (5, -1)])])], [(26, [], [(0, [(0, 1)]), (0, [(3, 1)]), (0, [(4, 1)]), (0, [(5, 1)]), (0, [(6, 1)]), (0, [(7, 1)])])]))
theorem q_m25_ok : ∀ (g : Int → Int → Int) (ln : Int → Int) (kf : Int → Nat) (ρ : List Int) (a i x : Int), sv_BOk ρ q_m25.2.1 → (∀ f ∈ q_m25.2.2.1, sv_FQk q_Ks q_Q g ln kf ρ f) → sv_nth ρ 0 = some a → sv_nth ρ 1 = some i → sv_nth ρ 2 = some x → 0 ≤ a → 0 ≤ i → i < ln a → kf a = q_m25.1 → ∀ f ∈ q_m25.2.2.2, sv_FQk q_Ks q_Q (sv_put g a i x) ln kf ρ f := by
  intro g ln kf ρ a i x hb hf n0 n1 n2 p0 p1 p2 p3
  obtain ⟨hl, hb⟩ := hb
  obtain ⟨xa, r0, rfl, l0⟩ := sv_lens hl
  obtain ⟨xi, r1, rfl, l1⟩ := sv_lens l0
  obtain ⟨xx, r2, rfl, l2⟩ := sv_lens l1
  obtain ⟨xb, r3, rfl, l3⟩ := sv_lens l2
  obtain ⟨xlo, r4, rfl, l4⟩ := sv_lens l3
  obtain ⟨xhi, r5, rfl, l5⟩ := sv_lens l4
  obtain ⟨xl, r6, rfl, l6⟩ := sv_lens l5
  obtain ⟨xu, r7, rfl, l7⟩ := sv_lens l6
  obtain rfl := sv_len0 l7
  clear l0 l1 l2 l3 l4 l5 l6 l7 hl
  have ba : 0 ≤ xa := (hb 0 _ _ rfl rfl).1
  have bb : 0 ≤ xb := (hb 3 _ _ rfl rfl).1
  clear hb
  obtain rfl : xa = a := by simpa [sv_nth] using n0
  obtain rfl : xi = i := by simpa [sv_nth] using n1
  obtain rfl : xx = x := by simpa [sv_nth] using n2
  clear n0 n1 n2
  have p3 : kf xa = 106 := p3
  have h0 := hf _ (List.mem_of_getElem? (i := 0) rfl)
  simp [sv_FQk, sv_FQ, sv_evs, sv_ev, sv_evT, sv_nth, sv_adq, sv_gs, q_Ks_10, q_Q_10] at h0
  have h1 := hf _ (List.mem_of_getElem? (i := 1) rfl)
  simp [sv_FQk, sv_FQ, sv_evs, sv_ev, sv_evT, sv_nth, sv_adq, sv_gs] at h1
  clear hf
  obtain ⟨⟨⟨-, Ka⟩, ⟨-, Kb⟩⟩, h0⟩ := h0
  rw [sv_Qlin2_iff] at h0
  have eb : sv_put g xa xi xx xb = g xb := sv_put_ne (sv_kf_ne Kb p3 (by decide))
  intro f hf
  have hf : f ∈ [(26, [], [(0, [(0, 1)]), (0, [(3, 1)]), (0, [(4, 1)]), (0, [(5, 1)]), (0, [(6, 1)]), (0, [(7, 1)])])] := hf
  simp only [List.mem_cons, List.not_mem_nil, or_false] at hf
  subst hf
  · simp [sv_FQk, sv_FQ, sv_evs, sv_ev, sv_evT, sv_nth, sv_adq, sv_gs, q_Ks_10, q_Q_10]
    refine ⟨⟨⟨ba, Ka⟩, ⟨bb, Kb⟩⟩, ?_⟩
    rw [sv_Qlin2_iff]
    simp only [sv_put_eq, eb]
    intro j j1 j2
    rw [if_neg (by omega)]
    exact h0 j j1 j2
-- en_o2
def q_m26 : Nat × SvM := (107, ([(0, none), (-1180591620717411303424, none), (-1180591620717411303424, none), (0, none), (-1180591620717411303424, none), (-1180591620717411303424, none), (-1180591620717411303424, none), (-1180591620717411303424, none)], [(26, [], [(0, [(3, 1)]), (0, [(0, 1)]), (0, [(4, 1)]), (0, [(5, 1)]), (0, [(6, 1)]), (0, [(7, 1)])]), (0, [], [(0, [(1, 1), (5, -1)])])], [(26, [], [(0, [(3, 1)]), (0, [(0, 1)]), (0, [(4, 1)]), (0, [(5, 1)]), (0, [(6, 1)]), (0, [(7, 1)])])]))
theorem q_m26_ok : ∀ (g : Int → Int → Int) (ln : Int → Int) (kf : Int → Nat) (ρ : List Int) (a i x : Int), sv_BOk ρ q_m26.2.1 → (∀ f ∈ q_m26.2.2.1, sv_FQk q_Ks q_Q g ln kf ρ f) → sv_nth ρ 0 = some a → sv_nth ρ 1 = some i → sv_nth ρ 2 = some x → 0 ≤ a → 0 ≤ i → i < ln a → kf a = q_m26.1 → ∀ f ∈ q_m26.2.2.2, sv_FQk q_Ks q_Q (sv_put g a i x) ln kf ρ f := by
  intro g ln kf ρ a i x hb hf n0 n1 n2 p0 p1 p2 p3
  obtain ⟨hl, hb⟩ := hb
  obtain ⟨xb, r0, rfl, l0⟩ := sv_lens hl
  obtain ⟨xi, r1, rfl, l1⟩ := sv_lens l0
  obtain ⟨xy, r2, rfl, l2⟩ := sv_lens l1
  obtain ⟨xa, r3, rfl, l3⟩ := sv_lens l2
  obtain ⟨xlo, r4, rfl, l4⟩ := sv_lens l3
  obtain ⟨xhi, r5, rfl, l5⟩ := sv_lens l4
  obtain ⟨xl, r6, rfl, l6⟩ := sv_lens l5
  obtain ⟨xu, r7, rfl, l7⟩ := sv_lens l6
  obtain rfl := sv_len0 l7
  clear l0 l1 l2 l3 l4 l5 l6 l7 hl
  have bb : 0 ≤ xb := (hb 0 _ _ rfl rfl).1
  have ba : 0 ≤ xa := (hb 3 _ _ rfl rfl).1
  clear hb
  obtain rfl : xb = a := by simpa [sv_nth] using n0
  obtain rfl : xi = i := by simpa [sv_nth] using n1
  obtain rfl : xy = x := by simpa [sv_nth] using n2
  clear n0 n1 n2
  have p3 : kf xb = 107 := p3
  have h0 := hf _ (List.mem_of_getElem? (i := 0) rfl)
  simp [sv_FQk, sv_FQ, sv_evs, sv_ev, sv_evT, sv_nth, sv_adq, sv_gs, q_Ks_10, q_Q_10] at h0
  have h1 := hf _ (List.mem_of_getElem? (i := 1) rfl)
  simp [sv_FQk, sv_FQ, sv_evs, sv_ev, sv_evT, sv_nth, sv_adq, sv_gs] at h1
  clear hf
  obtain ⟨⟨⟨-, Ka⟩, ⟨-, Kb⟩⟩, h0⟩ := h0
  rw [sv_Qlin2_iff] at h0
  have ea : sv_put g xb xi xy xa = g xa := sv_put_ne (sv_kf_ne Ka p3 (by decide))
  intro f hf
  have hf : f ∈ [(26, [], [(0, [(3, 1)]), (0, [(0, 1)]), (0, [(4, 1)]), (0, [(5, 1)]), (0, [(6, 1)]), (0, [(7, 1)])])] := hf
  simp only [List.mem_cons, List.not_mem_nil, or_false] at hf
  subst hf
  · simp [sv_FQk, sv_FQ, sv_evs, sv_ev, sv_evT, sv_nth, sv_adq, sv_gs, q_Ks_10, q_Q_10]
    refine ⟨⟨⟨ba, Ka⟩, ⟨bb, Kb⟩⟩, ?_⟩
    rw [sv_Qlin2_iff]
    simp only [sv_put_eq, ea]
    intro j j1 j2
    rw [if_neg (by omega)]
    exact h0 j j1 j2
-- oc_s
def q_m27 : Nat × SvM := (63, ([(0, none), (-1180591620717411303424, none), (-1180591620717411303424, none), (-1180591620717411303424, none), (-1180591620717411303424, none), (-1180591620717411303424, none), (-1180591620717411303424, none)], [(27, [], [(0, [(0, 1)]), (0, [(3, 1)]), (0, [(4, 1)]), (0, [(5, 1)]), (0, [(6, 1)])]), (0, [], [(0, [(1, -1), (4, 1)])]), (0, [], [(0, [(1, 1), (4, -1)])]), (0, [], [(0, [(2, 1), (5, -1)])]), (0, [], [(0, [(2, -1), (6, 1)])])], [(27, [], [(0, [(0, 1)]), (0, [(3, 1)]), (1, [(4, 1)]), (0, [(5, 1)]), (0, [(6, 1)])])]))
theorem q_m27_ok : ∀ (g : Int → Int → Int) (ln : Int → Int) (kf : Int → Nat) (ρ : List Int) (a i x : Int), sv_BOk ρ q_m27.2.1 → (∀ f ∈ q_m27.2.2.1, sv_FQk q_Ks q_Q g ln kf ρ f) → sv_nth ρ 0 = some a → sv_nth ρ 1 = some i → sv_nth ρ 2 = some x → 0 ≤ a → 0 ≤ i → i < ln a → kf a = q_m27.1 → ∀ f ∈ q_m27.2.2.2, sv_FQk q_Ks q_Q (sv_put g a i x) ln kf ρ f := by
  intro g ln kf ρ a i x hb hf n0 n1 n2 p0 p1 p2 p3
  obtain ⟨hl, hb⟩ := hb
  obtain ⟨xa, r0, rfl, l0⟩ := sv_lens hl
  obtain ⟨xi, r1, rfl, l1⟩ := sv_lens l0
  obtain ⟨xx, r2, rfl, l2⟩ := sv_lens l1
  obtain ⟨xlo, r3, rfl, l3⟩ := sv_lens l2
  obtain ⟨xhi, r4, rfl, l4⟩ := sv_lens l3
  obtain ⟨xl, r5, rfl, l5⟩ := sv_lens l4
  obtain ⟨xu, r6, rfl, l6⟩ := sv_lens l5
  obtain rfl := sv_len0 l6
  clear l0 l1 l2 l3 l4 l5 l6 hl
  have ba : 0 ≤ xa := (hb 0 _ _ rfl rfl).1
  clear hb
  obtain rfl : xa = a := by simpa [sv_nth] using n0
  obtain rfl : xi = i := by simpa [sv_nth] using n1
  obtain rfl : xx = x := by simpa [sv_nth] using n2
  clear n0 n1 n2
  have p3 : kf xa = 63 := p3
  have h0 := hf _ (List.mem_of_getElem? (i := 0) rfl)
  simp [sv_FQk, sv_FQ, sv_evs, sv_ev, sv_evT, sv_nth, sv_adq, sv_gs, q_Ks_11, q_Q_11] at h0
  have h1 := hf _ (List.mem_of_getElem? (i := 1) rfl)
  simp [sv_FQk, sv_FQ, sv_evs, sv_ev, sv_evT, sv_nth, sv_adq, sv_gs] at h1
  have h2 := hf _ (List.mem_of_getElem? (i := 2) rfl)
  simp [sv_FQk, sv_FQ, sv_evs, sv_ev, sv_evT, sv_nth, sv_adq, sv_gs] at h2
  have h3 := hf _ (List.mem_of_getElem? (i := 3) rfl)
  simp [sv_FQk, sv_FQ, sv_evs, sv_ev, sv_evT, sv_nth, sv_adq, sv_gs] at h3
  have h4 := hf _ (List.mem_of_getElem? (i := 4) rfl)
  simp [sv_FQk, sv_FQ, sv_evs, sv_ev, sv_evT, sv_nth, sv_adq, sv_gs] at h4
  clear hf
  obtain ⟨⟨-, Ka⟩, h0⟩ := h0
  rw [sv_Qlin_iff] at h0
  intro f hf
  have hf : f ∈ [(27, [], [(0, [(0, 1)]), (0, [(3, 1)]), (1, [(4, 1)]), (0, [(5, 1)]), (0, [(6, 1)])])] := hf
  simp only [List.mem_cons, List.not_mem_nil, or_false] at hf
  subst hf
  · simp [sv_FQk, sv_FQ, sv_evs, sv_ev, sv_evT, sv_nth, sv_adq, sv_gs, q_Ks_11, q_Q_11]
    refine ⟨⟨ba, Ka⟩, ?_⟩
    rw [sv_Qlin_iff]
    simp only [sv_put_eq]
    intro j j1 j2
    by_cases e : j = xi
    · rw [if_pos e]
      omega
    · rw [if_neg e]
      exact h0 j j1 (by omega)
-- oc_k
def q_m28 : Nat × SvM := (63, ([(0, none), (-1180591620717411303424, none), (-1180591620717411303424, none), (-1180591620717411303424, none), (-1180591620717411303424, none), (-1180591620717411303424, none), (-1180591620717411303424, none)], [(27, [], [(0, [(0, 1)]), (0, [(3, 1)]), (0, [(4, 1)]), (0, [(5, 1)]), (0, [(6, 1)])]), (0, [], [(0, [(2, 1), (5, -1)])]), (0, [], [(0, [(2, -1), (6, 1)])])], [(27, [], [(0, [(0, 1)]), (0, [(3, 1)]), (0, [(4, 1)]), (0, [(5, 1)]), (0, [(6, 1)])])]))
theorem q_m28_ok : ∀ (g : Int → Int → Int) (ln : Int → Int) (kf : Int → Nat) (ρ : List Int) (a i x : Int), sv_BOk ρ q_m28.2.1 → (∀ f ∈ q_m28.2.2.1, sv_FQk q_Ks q_Q g ln kf ρ f) → sv_nth ρ 0 = some a → sv_nth ρ 1 = some i → sv_nth ρ 2 = some x → 0 ≤ a → 0 ≤ i → i < ln a → kf a = q_m28.1 → ∀ f ∈ q_m28.2.2.2, sv_FQk q_Ks q_Q (sv_put g a i x) ln kf ρ f := by
  intro g ln kf ρ a i x hb hf n0 n1 n2 p0 p1 p2 p3
  obtain ⟨hl, hb⟩ := hb
  obtain ⟨xa, r0, rfl, l0⟩ := sv_lens hl
  obtain ⟨xi, r1, rfl, l1⟩ := sv_lens l0
  obtain ⟨xx, r2, rfl, l2⟩ := sv_lens l1
  obtain ⟨xlo, r3, rfl, l3⟩ := sv_lens l2
  obtain ⟨xhi, r4, rfl, l4⟩ := sv_lens l3
  obtain ⟨xl, r5, rfl, l5⟩ := sv_lens l4
  obtain ⟨xu, r6, rfl, l6⟩ := sv_lens l5
  obtain rfl := sv_len0 l6
  clear l0 l1 l2 l3 l4 l5 l6 hl
  have ba : 0 ≤ xa := (hb 0 _ _ rfl rfl).1
  clear hb
  obtain rfl : xa = a := by simpa [sv_nth] using n0
  obtain rfl : xi = i := by simpa [sv_nth] using n1
  obtain rfl : xx = x := by simpa [sv_nth] using n2
  clear n0 n1 n2
  have p3 : kf xa = 63 := p3
  have h0 := hf _ (List.mem_of_getElem? (i := 0) rfl)
  simp [sv_FQk, sv_FQ, sv_evs, sv_ev, sv_evT, sv_nth, sv_adq, sv_gs, q_Ks_11, q_Q_11] at h0
  have h1 := hf _ (List.mem_of_getElem? (i := 1) rfl)
  simp [sv_FQk, sv_FQ, sv_evs, sv_ev, sv_evT, sv_nth, sv_adq, sv_gs] at h1
  have h2 := hf _ (List.mem_of_getElem? (i := 2) rfl)
  simp [sv_FQk, sv_FQ, sv_evs, sv_ev, sv_evT, sv_nth, sv_adq, sv_gs] at h2
  clear hf
  obtain ⟨⟨-, Ka⟩, h0⟩ := h0
  rw [sv_Qlin_iff] at h0
  intro f hf
  have hf : f ∈ [(27, [], [(0, [(0, 1)]), (0, [(3, 1)]), (0, [(4, 1)]), (0, [(5, 1)]), (0, [(6, 1)])])] := hf
  simp only [List.mem_cons, List.not_mem_nil, or_false] at hf
  subst hf
  · simp [sv_FQk, sv_FQ, sv_evs, sv_ev, sv_evT, sv_nth, sv_adq, sv_gs, q_Ks_11, q_Q_11]
    refine ⟨⟨ba, Ka⟩, ?_⟩
    rw [sv_Qlin_iff]
    simp only [sv_put_eq]
    intro j j1 j2
    by_cases e : j = xi
    · rw [if_pos e]
      try rw [e]
      omega
    · rw [if_neg e]
      exact h0 j j1 j2
-- oc_o
def q_m29 : Nat × SvM := (63, ([(0, none), (-1180591620717411303424, none), (-1180591620717411303424, none), (-1180591620717411303424, none), (-1180591620717411303424, none), (-1180591620717411303424, none), (-1180591620717411303424, none)], [(27, [], [(0, [(0, 1)]), (0, [(3, 1)]), (0, [(4, 1)]), (0, [(5, 1)]), (0, [(6, 1)])]), (0, [], [(0, [(1, 1), (4, -1)])])], [(27, [], [(0, [(0, 1)]), (0, [(3, 1)]), (0, [(4, 1)]), (0, [(5, 1)]), (0, [(6, 1)])])]))
theorem q_m29_ok : ∀ (g : Int → Int → Int) (ln : Int → Int) (kf : Int → Nat) (ρ : List Int) (a i x : Int), sv_BOk ρ q_m29.2.1 → (∀ f ∈ q_m29.2.2.1, sv_FQk q_Ks q_Q g ln kf ρ f) → sv_nth ρ 0 = some a → sv_nth ρ 1 = some i → sv_nth ρ 2 = some x → 0 ≤ a → 0 ≤ i → i < ln a → kf a = q_m29.1 → ∀ f ∈ q_m29.2.2.2, sv_FQk q_Ks q_Q (sv_put g a i x) ln kf ρ f := by
  intro g ln kf ρ a i x hb hf n0 n1 n2 p0 p1 p2 p3
  obtain ⟨hl, hb⟩ := hb
  obtain ⟨xa, r0, rfl, l0⟩ := sv_lens hl
  obtain ⟨xi, r1, rfl, l1⟩ := sv_lens l0
  obtain ⟨xx, r2, rfl, l2⟩ := sv_lens l1
  obtain ⟨xlo, r3, rfl, l3⟩ := sv_lens l2
  obtain ⟨xhi, r4, rfl, l4⟩ := sv_lens l3
  obtain ⟨xl, r5, rfl, l5⟩ := sv_lens l4
  obtain ⟨xu, r6, rfl, l6⟩ := sv_lens l5
  obtain rfl := sv_len0 l6
  clear l0 l1 l2 l3 l4 l5 l6 hl
  have ba : 0 ≤ xa := (hb 0 _ _ rfl rfl).1
  clear hb
  obtain rfl : xa = a := by simpa [sv_nth] using n0
  obtain rfl : xi = i := by simpa [sv_nth] using n1
  obtain rfl : xx = x := by simpa [sv_nth] using n2
  clear n0 n1 n2
  have p3 : kf xa = 63 := p3
  have h0 := hf _ (List.mem_of_getElem? (i := 0) rfl)
  simp [sv_FQk, sv_FQ, sv_evs, sv_ev, sv_evT, sv_nth, sv_adq, sv_gs, q_Ks_11, q_Q_11] at h0
  have h1 := hf _ (List.mem_of_getElem? (i := 1) rfl)
  simp [sv_FQk, sv_FQ, sv_evs, sv_ev, sv_evT, sv_nth, sv_adq, sv_gs] at h1
  clear hf
  obtain ⟨⟨-, Ka⟩, h0⟩ := h0
  rw [sv_Qlin_iff] at h0
  intro f hf
  have hf : f ∈ [(27, [], [(0, [(0, 1)]), (0, [(3, 1)]), (0, [(4, 1)]), (0, [(5, 1)]), (0, [(6, 1)])])] := hf
  simp only [List.mem_cons, List.not_mem_nil, or_false] at hf
  subst hf
  · simp [sv_FQk, sv_FQ, sv_evs, sv_ev, sv_evT, sv_nth, sv_adq, sv_gs, q_Ks_11, q_Q_11]
    refine ⟨⟨ba, Ka⟩, ?_⟩
    rw [sv_Qlin_iff]
    simp only [sv_put_eq]
    intro j j1 j2
    rw [if_neg (by omega)]
    exact h0 j j1 j2
-- oc_p
def q_m30 : Nat × SvM := (63, ([(0, none), (-1180591620717411303424, none), (-1180591620717411303424, none), (-1180591620717411303424, none), (-1180591620717411303424, none), (-1180591620717411303424, none), (-1180591620717411303424, none)], [(27, [], [(0, [(0, 1)]), (0, [(3, 1)]), (0, [(4, 1)]), (0, [(5, 1)]), (0, [(6, 1)])]), (0, [], [(-1, [(1, -1), (3, 1)])])], [(27, [], [(0, [(0, 1)]), (0, [(3, 1)]), (0, [(4, 1)]), (0, [(5, 1)]), (0, [(6, 1)])])]))
theorem q_m30_ok : ∀ (g : Int → Int → Int) (ln : Int → Int) (kf : Int → Nat) (ρ : List Int) (a i x : Int), sv_BOk ρ q_m30.2.1 → (∀ f ∈ q_m30.2.2.1, sv_FQk q_Ks q_Q g ln kf ρ f) → sv_nth ρ 0 = some a → sv_nth ρ 1 = some i → sv_nth ρ 2 = some x → 0 ≤ a → 0 ≤ i → i < ln a → kf a = q_m30.1 → ∀ f ∈ q_m30.2.2.2, sv_FQk q_Ks q_Q (sv_put g a i x) ln kf ρ f := by
  intro g ln kf ρ a i x hb hf n0 n1 n2 p0 p1 p2 p3
  obtain ⟨hl, hb⟩ := hb
  obtain ⟨xa, r0, rfl, l0⟩ := sv_lens hl
  obtain ⟨xi, r1, rfl, l1⟩ := sv_lens l0
  obtain ⟨xx, r2, rfl, l2⟩ := sv_lens l1
  obtain ⟨xlo, r3, rfl, l3⟩ := sv_lens l2
  obtain ⟨xhi, r4, rfl, l4⟩ := sv_lens l3
  obtain ⟨xl, r5, rfl, l5⟩ := sv_lens l4
  obtain ⟨xu, r6, rfl, l6⟩ := sv_lens l5
  obtain rfl := sv_len0 l6
  clear l0 l1 l2 l3 l4 l5 l6 hl
  have ba : 0 ≤ xa := (hb 0 _ _ rfl rfl).1
  clear hb
  obtain rfl : xa = a := by simpa [sv_nth] using n0
  obtain rfl : xi = i := by simpa [sv_nth] using n1
  obtain rfl : xx = x := by simpa [sv_nth] using n2
  clear n0 n1 n2
  have p3 : kf xa = 63 := p3
  have h0 := hf _ (List.mem_of_getElem? (i := 0) rfl)
  simp [sv_FQk, sv_FQ, sv_evs, sv_ev, sv_evT, sv_nth, sv_adq, sv_gs, q_Ks_11, q_Q_11] at h0
  have h1 := hf _ (List.mem_of_getElem? (i := 1) rfl)
  simp [sv_FQk, sv_FQ, sv_evs, sv_ev, sv_evT, sv_nth, sv_adq, sv_gs] at h1
  clear hf
  obtain ⟨⟨-, Ka⟩, h0⟩ := h0
  rw [sv_Qlin_iff] at h0
  intro f hf
  have hf : f ∈ [(27, [], [(0, [(0, 1)]), (0, [(3, 1)]), (0, [(4, 1)]), (0, [(5, 1)]), (0, [(6, 1)])])] := hf
  simp only [List.mem_cons, List.not_mem_nil, or_false] at hf
  subst hf
  · simp [sv_FQk, sv_FQ, sv_evs, sv_ev, sv_evT, sv_nth, sv_adq, sv_gs, q_Ks_11, q_Q_11]
    refine ⟨⟨ba, Ka⟩, ?_⟩
    rw [sv_Qlin_iff]
    simp only [sv_put_eq]
    intro j j1 j2
    rw [if_neg (by omega)]
    exact h0 j j1 j2
-- hd_s
def q_m31 : Nat × SvM := (106, ([(0, none), (-1180591620717411303424, none), (-1180591620717411303424, none), (0, none), (-1180591620717411303424, none)], [(28, [], [(0, [(3, 1)]), (0, [(0, 1)]), (0, [(4, 1)])]), (0, [], [(0, [(1, 1), (4, -1)])])], [(28, [], [(0, [(3, 1)]), (0, [(0, 1)]), (0, [(4, 1)])])]))
theorem q_m31_ok : ∀ (g : Int → Int → Int) (ln : Int → Int) (kf : Int → Nat) (ρ : List Int) (a i x : Int), sv_BOk ρ q_m31.2.1 → (∀ f ∈ q_m31.2.2.1, sv_FQk q_Ks q_Q g ln kf ρ f) → sv_nth ρ 0 = some a → sv_nth ρ 1 = some i → sv_nth ρ 2 = some x → 0 ≤ a → 0 ≤ i → i < ln a → kf a = q_m31.1 → ∀ f ∈ q_m31.2.2.2, sv_FQk q_Ks q_Q (sv_put g a i x) ln kf ρ f := by
  intro g ln kf ρ a i x hb hf n0 n1 n2 p0 p1 p2 p3
  obtain ⟨hl, hb⟩ := hb
  obtain ⟨xb, r0, rfl, l0⟩ := sv_lens hl
  obtain ⟨xi, r1, rfl, l1⟩ := sv_lens l0
  obtain ⟨xq, r2, rfl, l2⟩ := sv_lens l1
  obtain ⟨xa, r3, rfl, l3⟩ := sv_lens l2
  obtain ⟨xn, r4, rfl, l4⟩ := sv_lens l3
  obtain rfl := sv_len0 l4
  clear l0 l1 l2 l3 l4 hl
  have bb : 0 ≤ xb := (hb 0 _ _ rfl rfl).1
  have ba : 0 ≤ xa := (hb 3 _ _ rfl rfl).1
  clear hb
  obtain rfl : xb = a := by simpa [sv_nth] using n0
  obtain rfl : xi = i := by simpa [sv_nth] using n1
  obtain rfl : xq = x := by simpa [sv_nth] using n2
  clear n0 n1 n2
  have p3 : kf xb = 106 := p3
  have h0 := hf _ (List.mem_of_getElem? (i := 0) rfl)
  simp [sv_FQk, sv_FQ, sv_evs, sv_ev, sv_evT, sv_nth, sv_adq, sv_gs, q_Ks_12, q_Q_12] at h0
  have h1 := hf _ (List.mem_of_getElem? (i := 1) rfl)
  simp [sv_FQk, sv_FQ, sv_evs, sv_ev, sv_evT, sv_nth, sv_adq, sv_gs] at h1
  clear hf
  obtain ⟨⟨⟨-, Ka⟩, ⟨-, Kb⟩⟩, h0⟩ := h0
  rw [sv_Qhd_iff] at h0
  have ea : sv_put g xb xi xq xa = g xa := sv_put_ne (sv_kf_ne Ka p3 (by decide))
  intro f hf
  have hf : f ∈ [(28, [], [(0, [(3, 1)]), (0, [(0, 1)]), (0, [(4, 1)])])] := hf
  simp only [List.mem_cons, List.not_mem_nil, or_false] at hf
  subst hf
  · simp [sv_FQk, sv_FQ, sv_evs, sv_ev, sv_evT, sv_nth, sv_adq, sv_gs, q_Ks_12, q_Q_12]
    refine ⟨⟨⟨ba, Ka⟩, ⟨bb, Kb⟩⟩, ?_⟩
    rw [sv_Qhd_iff]
    simp only [sv_put_eq, ea]
    intro k k1 k2
    rw [if_neg (by omega)]
    exact h0 k k1 k2
-- pk_s
def q_m32 : Nat × SvM := (118, ([(0, none), (-1180591620717411303424, none), (-1180591620717411303424, none), (-1180591620717411303424, none), (-1180591620717411303424, none), (-1180591620717411303424, none), (-1180591620717411303424, none)], [(29, [], [(0, [(0, 1)]), (0, [(3, 1)]), (0, [(4, 1)]), (0, [(5, 1)]), (0, [(6, 1)])]), (0, [], [(0, [(1, -1), (4, 1)])]), (0, [], [(0, [(1, 1), (4, -1)])]), (0, [], [(0, [(2, 1), (5, -1)])]), (0, [], [(0, [(2, -1), (6, 1)])])], [(29, [], [(0, [(0, 1)]), (0, [(3, 1)]), (1, [(4, 1)]), (0, [(5, 1)]), (0, [(6, 1)])])]))
theorem q_m32_ok : ∀ (g : Int → Int → Int) (ln : Int → Int) (kf : Int → Nat) (ρ : List Int) (a i x : Int), sv_BOk ρ q_m32.2.1 → (∀ f ∈ q_m32.2.2.1, sv_FQk q_Ks q_Q g ln kf ρ f) → sv_nth ρ 0 = some a → sv_nth ρ 1 = some i → sv_nth ρ 2 = some x → 0 ≤ a → 0 ≤ i → i < ln a → kf a = q_m32.1 → ∀ f ∈ q_m32.2.2.2, sv_FQk q_Ks q_Q (sv_put g a i x) ln kf ρ f := by
  intro g ln kf ρ a i x hb hf n0 n1 n2 p0 p1 p2 p3
  obtain ⟨hl, hb⟩ := hb
  obtain ⟨xa, r0, rfl, l0⟩ := sv_lens hl
  obtain ⟨xi, r1, rfl, l1⟩ := sv_lens l0
  obtain ⟨xx, r2, rfl, l2⟩ := sv_lens l1
  obtain ⟨xlo, r3, rfl, l3⟩ := sv_lens l2
  obtain ⟨xhi, r4, rfl, l4⟩ := sv_lens l3
  obtain ⟨xl, r5, rfl, l5⟩ := sv_lens l4
  obtain ⟨xu, r6, rfl, l6⟩ := sv_lens l5
  obtain rfl := sv_len0 l6
  clear l0 l1 l2 l3 l4 l5 l6 hl
  have ba : 0 ≤ xa := (hb 0 _ _ rfl rfl).1
  clear hb
  obtain rfl : xa = a := by simpa [sv_nth] using n0
  obtain rfl : xi = i := by simpa [sv_nth] using n1
  obtain rfl : xx = x := by simpa [sv_nth] using n2
  clear n0 n1 n2
  have p3 : kf xa = 118 := p3
  have h0 := hf _ (List.mem_of_getElem? (i := 0) rfl)
  simp [sv_FQk, sv_FQ, sv_evs, sv_ev, sv_evT, sv_nth, sv_adq, sv_gs, q_Ks_13, q_Q_13] at h0
  have h1 := hf _ (List.mem_of_getElem? (i := 1) rfl)
  simp [sv_FQk, sv_FQ, sv_evs, sv_ev, sv_evT, sv_nth, sv_adq, sv_gs] at h1
  have h2 := hf _ (List.mem_of_getElem? (i := 2) rfl)
  simp [sv_FQk, sv_FQ, sv_evs, sv_ev, sv_evT, sv_nth, sv_adq, sv_gs] at h2
  have h3 := hf _ (List.mem_of_getElem? (i := 3) rfl)
  simp [sv_FQk, sv_FQ, sv_evs, sv_ev, sv_evT, sv_nth, sv_adq, sv_gs] at h3
  have h4 := hf _ (List.mem_of_getElem? (i := 4) rfl)
  simp [sv_FQk, sv_FQ, sv_evs, sv_ev, sv_evT, sv_nth, sv_adq, sv_gs] at h4
  clear hf
  obtain ⟨⟨-, Ka⟩, h0⟩ := h0
  rw [sv_Qlin_iff] at h0
  intro f hf
  have hf : f ∈ [(29, [], [(0, [(0, 1)]), (0, [(3, 1)]), (1, [(4, 1)]), (0, [(5, 1)]), (0, [(6, 1)])])] := hf
  simp only [List.mem_cons, List.not_mem_nil, or_false] at hf
  subst hf
  · simp [sv_FQk, sv_FQ, sv_evs, sv_ev, sv_evT, sv_nth, sv_adq, sv_gs, q_Ks_13, q_Q_13]
    refine ⟨⟨ba, Ka⟩, ?_⟩
    rw [sv_Qlin_iff]
    simp only [sv_put_eq]
    intro j j1 j2
    by_cases e : j = xi
    · rw [if_pos e]
      omega
    · rw [if_neg e]
      exact h0 j j1 (by omega)
-- pk_k
def q_m33 : Nat × SvM := (118, ([(0, none), (-1180591620717411303424, none), (-1180591620717411303424, none), (-1180591620717411303424, none), (-1180591620717411303424, none), (-1180591620717411303424, none), (-1180591620717411303424, none)], [(29, [], [(0, [(0, 1)]), (0, [(3, 1)]), (0, [(4, 1)]), (0, [(5, 1)]), (0, [(6, 1)])]), (0, [], [(0, [(2, 1), (5, -1)])]), (0, [], [(0, [(2, -1), (6, 1)])])], [(29, [], [(0, [(0, 1)]), (0, [(3, 1)]), (0, [(4, 1)]), (0, [(5, 1)]), (0, [(6, 1)])])]))
theorem q_m33_ok : ∀ (g : Int → Int → Int) (ln : Int → Int) (kf : Int → Nat) (ρ : List Int) (a i x : Int), sv_BOk ρ q_m33.2.1 → (∀ f ∈ q_m33.2.2.1, sv_FQk q_Ks q_Q g ln kf ρ f) → sv_nth ρ 0 = some a → sv_nth ρ 1 = some i → sv_nth ρ 2 = some x → 0 ≤ a → 0 ≤ i → i < ln a → kf a = q_m33.1 → ∀ f ∈ q_m33.2.2.2, sv_FQk q_Ks q_Q (sv_put g a i x) ln kf ρ f := by
  intro g ln kf ρ a i x hb hf n0 n1 n2 p0 p1 p2 p3
  obtain ⟨hl, hb⟩ := hb
  obtain ⟨xa, r0, rfl, l0⟩ := sv_lens hl
  obtain ⟨xi, r1, rfl, l1⟩ := sv_lens l0
  obtain ⟨xx, r2, rfl, l2⟩ := sv_lens l1
  obtain ⟨xlo, r3, rfl, l3⟩ := sv_lens l2
  obtain ⟨xhi, r4, rfl, l4⟩ := sv_lens l3
  obtain ⟨xl, r5, rfl, l5⟩ := sv_lens l4
  obtain ⟨xu, r6, rfl, l6⟩ := sv_lens l5
  obtain rfl := sv_len0 l6
  clear l0 l1 l2 l3 l4 l5 l6 hl
  have ba : 0 ≤ xa := (hb 0 _ _ rfl rfl).1
  clear hb
  obtain rfl : xa = a := by simpa [sv_nth] using n0
  obtain rfl : xi = i := by simpa [sv_nth] using n1
  obtain rfl : xx = x := by simpa [sv_nth] using n2
  clear n0 n1 n2
  have p3 : kf xa = 118 := p3
  have h0 := hf _ (List.mem_of_getElem? (i := 0) rfl)
  simp [sv_FQk, sv_FQ, sv_evs, sv_ev, sv_evT, sv_nth, sv_adq, sv_gs, q_Ks_13, q_Q_13] at h0
  have h1 := hf _ (List.mem_of_getElem? (i := 1) rfl)
  simp [sv_FQk, sv_FQ, sv_evs, sv_ev, sv_evT, sv_nth, sv_adq, sv_gs] at h1
  have h2 := hf _ (List.mem_of_getElem? (i := 2) rfl)
  simp [sv_FQk, sv_FQ, sv_evs, sv_ev, sv_evT, sv_nth, sv_adq, sv_gs] at h2
  clear hf
  obtain ⟨⟨-, Ka⟩, h0⟩ := h0
  rw [sv_Qlin_iff] at h0
  intro f hf
  have hf : f ∈ [(29, [], [(0, [(0, 1)]), (0, [(3, 1)]), (0, [(4, 1)]), (0, [(5, 1)]), (0, [(6, 1)])])] := hf
  simp only [List.mem_cons, List.not_mem_nil, or_false] at hf
  subst hf
  · simp [sv_FQk, sv_FQ, sv_evs, sv_ev, sv_evT, sv_nth, sv_adq, sv_gs, q_Ks_13, q_Q_13]
    refine ⟨⟨ba, Ka⟩, ?_⟩
    rw [sv_Qlin_iff]
    simp only [sv_put_eq]
    intro j j1 j2
    by_cases e : j = xi
    · rw [if_pos e]
      try rw [e]
      omega
    · rw [if_neg e]
      exact h0 j j1 j2
-- pk_o
def q_m34 : Nat × SvM := (118, ([(0, none), (-1180591620717411303424, none), (-1180591620717411303424, none), (-1180591620717411303424, none), (-1180591620717411303424, none), (-1180591620717411303424, none), (-1180591620717411303424, none)], [(29, [], [(0, [(0, 1)]), (0, [(3, 1)]), (0, [(4, 1)]), (0, [(5, 1)]), (0, [(6, 1)])]), (0, [], [(0, [(1, 1), (4, -1)])])], [(29, [], [(0, [(0, 1)]), (0, [(3, 1)]), (0, [(4, 1)]), (0, [(5, 1)]), (0, [(6, 1)])])]))
theorem q_m34_ok : ∀ (g : Int → Int → Int) (ln : Int → Int) (kf : Int → Nat) (ρ : List Int) (a i x : Int), sv_BOk ρ q_m34.2.1 → (∀ f ∈ q_m34.2.2.1, sv_FQk q_Ks q_Q g ln kf ρ f) → sv_nth ρ 0 = some a → sv_nth ρ 1 = some i → sv_nth ρ 2 = some x → 0 ≤ a → 0 ≤ i → i < ln a → kf a = q_m34.1 → ∀ f ∈ q_m34.2.2.2, sv_FQk q_Ks q_Q (sv_put g a i x) ln kf ρ f := by
  intro g ln kf ρ a i x hb hf n0 n1 n2 p0 p1 p2 p3
  obtain ⟨hl, hb⟩ := hb
  obtain ⟨xa, r0, rfl, l0⟩ := sv_lens hl
  obtain ⟨xi, r1, rfl, l1⟩ := sv_lens l0
  obtain ⟨xx, r2, rfl, l2⟩ := sv_lens l1
  obtain ⟨xlo, r3, rfl, l3⟩ := sv_lens l2
  obtain ⟨xhi, r4, rfl, l4⟩ := sv_lens l3
  obtain ⟨xl, r5, rfl, l5⟩ := sv_lens l4
  obtain ⟨xu, r6, rfl, l6⟩ := sv_lens l5
  obtain rfl := sv_len0 l6
  clear l0 l1 l2 l3 l4 l5 l6 hl
  have ba : 0 ≤ xa := (hb 0 _ _ rfl rfl).1
  clear hb
  obtain rfl : xa = a := by simpa [sv_nth] using n0
  obtain rfl : xi = i := by simpa [sv_nth] using n1
  obtain rfl : xx = x := by simpa [sv_nth] using n2
  clear n0 n1 n2
  have p3 : kf xa = 118 := p3
  have h0 := hf _ (List.mem_of_getElem? (i := 0) rfl)
  simp [sv_FQk, sv_FQ, sv_evs, sv_ev, sv_evT, sv_nth, sv_adq, sv_gs, q_Ks_13, q_Q_13] at h0
  have h1 := hf _ (List.mem_of_getElem? (i := 1) rfl)
  simp [sv_FQk, sv_FQ, sv_evs, sv_ev, sv_evT, sv_nth, sv_adq, sv_gs] at h1
  clear hf
  obtain ⟨⟨-, Ka⟩, h0⟩ := h0
  rw [sv_Qlin_iff] at h0
  intro f hf
  have hf : f ∈ [(29, [], [(0, [(0, 1)]), (0, [(3, 1)]), (0, [(4, 1)]), (0, [(5, 1)]), (0, [(6, 1)])])] := hf
  simp only [List.mem_cons, List.not_mem_nil, or_false] at hf
  subst hf
  · simp [sv_FQk, sv_FQ, sv_evs, sv_ev, sv_evT, sv_nth, sv_adq, sv_gs, q_Ks_13, q_Q_13]
    refine ⟨⟨ba, Ka⟩, ?_⟩
    rw [sv_Qlin_iff]
    simp only [sv_put_eq]
    intro j j1 j2
    rw [if_neg (by omega)]
    exact h0 j j1 j2
-- pk_p
def q_m35 : Nat × SvM := (118, ([(0, none), (-1180591620717411303424, none), (-1180591620717411303424, none), (-1180591620717411303424, none), (-1180591620717411303424, none), (-1180591620717411303424, none), (-1180591620717411303424, none)], [(29, [], [(0, [(0, 1)]), (0, [(3, 1)]), (0, [(4, 1)]), (0, [(5, 1)]), (0, [(6, 1)])]), (0, [], [(-1, [(1, -1), (3, 1)])])], [(29, [], [(0, [(0, 1)]), (0, [(3, 1)]), (0, [(4, 1)]), (0, [(5, 1)]), (0, [(6, 1)])])]))
theorem q_m35_ok : ∀ (g : Int → Int → Int) (ln : Int → Int) (kf : Int → Nat) (ρ : List Int) (a i x : Int), sv_BOk ρ q_m35.2.1 → (∀ f ∈ q_m35.2.2.1, sv_FQk q_Ks q_Q g ln kf ρ f) → sv_nth ρ 0 = some a → sv_nth ρ 1 = some i → sv_nth ρ 2 = some x → 0 ≤ a → 0 ≤ i → i < ln a → kf a = q_m35.1 → ∀ f ∈ q_m35.2.2.2, sv_FQk q_Ks q_Q (sv_put g a i x) ln kf ρ f := by
  intro g ln kf ρ a i x hb hf n0 n1 n2 p0 p1 p2 p3
  obtain ⟨hl, hb⟩ := hb
  obtain ⟨xa, r0, rfl, l0⟩ := sv_lens hl
  obtain ⟨xi, r1, rfl, l1⟩ := sv_lens l0
  obtain ⟨xx, r2, rfl, l2⟩ := sv_lens l1
  obtain ⟨xlo, r3, rfl, l3⟩ := sv_lens l2
  obtain ⟨xhi, r4, rfl, l4⟩ := sv_lens l3
  obtain ⟨xl, r5, rfl, l5⟩ := sv_lens l4
  obtain ⟨xu, r6, rfl, l6⟩ := sv_lens l5
  obtain rfl := sv_len0 l6
  clear l0 l1 l2 l3 l4 l5 l6 hl
  have ba : 0 ≤ xa := (hb 0 _ _ rfl rfl).1
  clear hb
  obtain rfl : xa = a := by simpa [sv_nth] using n0
  obtain rfl : xi = i := by simpa [sv_nth] using n1
  obtain rfl : xx = x := by simpa [sv_nth] using n2
  clear n0 n1 n2
  have p3 : kf xa = 118 := p3
  have h0 := hf _ (List.mem_of_getElem? (i := 0) rfl)
  simp [sv_FQk, sv_FQ, sv_evs, sv_ev, sv_evT, sv_nth, sv_adq, sv_gs, q_Ks_13, q_Q_13] at h0
  have h1 := hf _ (List.mem_of_getElem? (i := 1) rfl)
  simp [sv_FQk, sv_FQ, sv_evs, sv_ev, sv_evT, sv_nth, sv_adq, sv_gs] at h1
  clear hf
  obtain ⟨⟨-, Ka⟩, h0⟩ := h0
  rw [sv_Qlin_iff] at h0
  intro f hf
  have hf : f ∈ [(29, [], [(0, [(0, 1)]), (0, [(3, 1)]), (0, [(4, 1)]), (0, [(5, 1)]), (0, [(6, 1)])])] := hf
  simp only [List.mem_cons, List.not_mem_nil, or_false] at hf
  subst hf
  · simp [sv_FQk, sv_FQ, sv_evs, sv_ev, sv_evT, sv_nth, sv_adq, sv_gs, q_Ks_13, q_Q_13]
    refine ⟨⟨ba, Ka⟩, ?_⟩
    rw [sv_Qlin_iff]
    simp only [sv_put_eq]
    intro j j1 j2
    rw [if_neg (by omega)]
    exact h0 j j1 j2
-- wn_s
def q_m36 : Nat × SvM := (101, ([(0, none), (-1180591620717411303424, none), (-1180591620717411303424, none), (-1180591620717411303424, none), (-1180591620717411303424, none), (-1180591620717411303424, none), (-1180591620717411303424, none)], [(30, [], [(0, [(0, 1)]), (0, [(3, 1)]), (0, [(4, 1)]), (0, [(5, 1)]), (0, [(6, 1)])]), (0, [], [(0, [(1, -1), (4, 1)])]), (0, [], [(0, [(1, 1), (4, -1)])]), (0, [], [(0, [(2, 1), (5, -1)])]), (0, [], [(0, [(2, -1), (6, 1)])])], [(30, [], [(0, [(0, 1)]), (0, [(3, 1)]), (1, [(4, 1)]), (0, [(5, 1)]), (0, [(6, 1)])])]))
theorem q_m36_ok : ∀ (g : Int → Int → Int) (ln : Int → Int) (kf : Int → Nat) (ρ : List Int) (a i x : Int), sv_BOk ρ q_m36.2.1 → (∀ f ∈ q_m36.2.2.1, sv_FQk q_Ks q_Q g ln kf ρ f) → sv_nth ρ 0 = some a → sv_nth ρ 1 = some i → sv_nth ρ 2 = some x → 0 ≤ a → 0 ≤ i → i < ln a → kf a = q_m36.1 → ∀ f ∈ q_m36.2.2.2, sv_FQk q_Ks q_Q (sv_put g a i x) ln kf ρ f := by
  intro g ln kf ρ a i x hb hf n0 n1 n2 p0 p1 p2 p3
  obtain ⟨hl, hb⟩ := hb
  obtain ⟨xa, r0, rfl, l0⟩ := sv_lens hl
  obtain ⟨xi, r1, rfl, l1⟩ := sv_lens l0
  obtain ⟨xx, r2, rfl, l2⟩ := sv_lens l1
  obtain ⟨xlo, r3, rfl, l3⟩ := sv_lens l2
  obtain ⟨xhi, r4, rfl, l4⟩ := sv_lens l3
  obtain ⟨xl, r5, rfl, l5⟩ := sv_lens l4
  obtain ⟨xu, r6, rfl, l6⟩ := sv_lens l5
  obtain rfl := sv_len0 l6
  clear l0 l1 l2 l3 l4 l5 l6 hl
  have ba : 0 ≤ xa := (hb 0 _ _ rfl rfl).1
  clear hb
  obtain rfl : xa = a := by simpa [sv_nth] using n0
  obtain rfl : xi = i := by simpa [sv_nth] using n1
  obtain rfl : xx = x := by simpa [sv_nth] using n2
  clear n0 n1 n2
  have p3 : kf xa = 101 := p3
  have h0 := hf _ (List.mem_of_getElem? (i := 0) rfl)
  simp [sv_FQk, sv_FQ, sv_evs, sv_ev, sv_evT, sv_nth, sv_adq, sv_gs, q_Ks_14, q_Q_14] at h0
  have h1 := hf _ (List.mem_of_getElem? (i := 1) rfl)
  simp [sv_FQk, sv_FQ, sv_evs, sv_ev, sv_evT, sv_nth, sv_adq, sv_gs] at h1
  have h2 := hf _ (List.mem_of_getElem? (i := 2) rfl)
  simp [sv_FQk, sv_FQ, sv_evs, sv_ev, sv_evT, sv_nth, sv_adq, sv_gs] at h2
  have h3 := hf _ (List.mem_of_getElem? (i := 3) rfl)
  simp [sv_FQk, sv_FQ, sv_evs, sv_ev, sv_evT, sv_nth, sv_adq, sv_gs] at h3
  have h4 := hf _ (List.mem_of_getElem? (i := 4) rfl)
  simp [sv_FQk, sv_FQ, sv_evs, sv_ev, sv_evT, sv_nth, sv_adq, sv_gs] at h4
  clear hf
  obtain ⟨⟨-, Ka⟩, h0⟩ := h0
  rw [sv_Qlin_iff] at h0
  intro f hf
  have hf : f ∈ [(30, [], [(0, [(0, 1)]), (0, [(3, 1)]), (1, [(4, 1)]), (0, [(5, 1)]), (0, [(6, 1)])])] := hf
  simp only [List.mem_cons, List.not_mem_nil, or_false] at hf
  subst hf
  · simp [sv_FQk, sv_FQ, sv_evs, sv_ev, sv_evT, sv_nth, sv_adq, sv_gs, q_Ks_14, q_Q_14]
    refine ⟨⟨ba, Ka⟩, ?_⟩
    rw [sv_Qlin_iff]
    simp only [sv_put_eq]
    intro j j1 j2
    by_cases e : j = xi
    · rw [if_pos e]
      omega
    · rw [if_neg e]
      exact h0 j j1 (by omega)
-- wn_k
def q_m37 : Nat × SvM := (101, ([(0, none), (-1180591620717411303424, none), (-1180591620717411303424, none), (-1180591620717411303424, none), (-1180591620717411303424, none), (-1180591620717411303424, none), (-1180591620717411303424, none)], [(30, [], [(0, [(0, 1)]), (0, [(3, 1)]), (0, [(4, 1)]), (0, [(5, 1)]), (0, [(6, 1)])]), (0, [], [(0, [(2, 1), (5, -1)])]), (0, [], [(0, [(2, -1), (6, 1)])])], [(30, [], [(0, [(0, 1)]), (0, [(3, 1)]), (0, [(4, 1)]), (0, [(5, 1)]), (0, [(6, 1)])])]))
theorem q_m37_ok : ∀ (g : Int → Int → Int) (ln : Int → Int) (kf : Int → Nat) (ρ : List Int) (a i x : Int), sv_BOk ρ q_m37.2.1 → (∀ f ∈ q_m37.2.2.1, sv_FQk q_Ks q_Q g ln kf ρ f) → sv_nth ρ 0 = some a → sv_nth ρ 1 = some i → sv_nth ρ 2 = some x → 0 ≤ a → 0 ≤ i → i < ln a → kf a = q_m37.1 → ∀ f ∈ q_m37.2.2.2, sv_FQk q_Ks q_Q (sv_put g a i x) ln kf ρ f := by
  intro g ln kf ρ a i x hb hf n0 n1 n2 p0 p1 p2 p3
  obtain ⟨hl, hb⟩ := hb
  obtain ⟨xa, r0, rfl, l0⟩ := sv_lens hl
  obtain ⟨xi, r1, rfl, l1⟩ := sv_lens l0
  obtain ⟨xx, r2, rfl, l2⟩ := sv_lens l1
  obtain ⟨xlo, r3, rfl, l3⟩ := sv_lens l2
  obtain ⟨xhi, r4, rfl, l4⟩ := sv_lens l3
  obtain ⟨xl, r5, rfl, l5⟩ := sv_lens l4
  obtain ⟨xu, r6, rfl, l6⟩ := sv_lens l5
  obtain rfl := sv_len0 l6
  clear l0 l1 l2 l3 l4 l5 l6 hl
  have ba : 0 ≤ xa := (hb 0 _ _ rfl rfl).1
  clear hb
  obtain rfl : xa = a := by simpa [sv_nth] using n0
  obtain rfl : xi = i := by simpa [sv_nth] using n1
  obtain rfl : xx = x := by simpa [sv_nth] using n2
  clear n0 n1 n2
  have p3 : kf xa = 101 := p3
  have h0 := hf _ (List.mem_of_getElem? (i := 0) rfl)
  simp [sv_FQk, sv_FQ, sv_evs, sv_ev, sv_evT, sv_nth, sv_adq, sv_gs, q_Ks_14, q_Q_14] at h0
  have h1 := hf _ (List.mem_of_getElem? (i := 1) rfl)
  simp [sv_FQk, sv_FQ, sv_evs, sv_ev, sv_evT, sv_nth, sv_adq, sv_gs] at h1
  have h2 := hf _ (List.mem_of_getElem? (i := 2) rfl)
  simp [sv_FQk, sv_FQ, sv_evs, sv_ev, sv_evT, sv_nth, sv_adq, sv_gs] at h2
  clear hf
  obtain ⟨⟨-, Ka⟩, h0⟩ := h0
  rw [sv_Qlin_iff] at h0
  intro f hf
  have hf : f ∈ [(30, [], [(0, [(0, 1)]), (0, [(3, 1)]), (0, [(4, 1)]), (0, [(5, 1)]), (0, [(6, 1)])])] := hf
  simp only [List.mem_cons, List.not_mem_nil, or_false] at hf
  subst hf
  · simp [sv_FQk, sv_FQ, sv_evs, sv_ev, sv_evT, sv_nth, sv_adq, sv_gs, q_Ks_14, q_Q_14]
    refine ⟨⟨ba, Ka⟩, ?_⟩
    rw [sv_Qlin_iff]
    simp only [sv_put_eq]
    intro j j1 j2
    by_cases e : j = xi
    · rw [if_pos e]
      try rw [e]
      omega
    · rw [if_neg e]
      exact h0 j j1 j2
-- wn_o
def q_m38 : Nat × SvM := (101, ([(0, none), (-1180591620717411303424, none), (-1180591620717411303424, none), (-1180591620717411303424, none), (-1180591620717411303424, none), (-1180591620717411303424, none), (-1180591620717411303424, none)], [(30, [], [(0, [(0, 1)]), (0, [(3, 1)]), (0, [(4, 1)]), (0, [(5, 1)]), (0, [(6, 1)])]), (0, [], [(0, [(1, 1), (4, -1)])])], [(30, [], [(0, [(0, 1)]), (0, [(3, 1)]), (0, [(4, 1)]), (0, [(5, 1)]), (0, [(6, 1)])])]))
theorem q_m38_ok : ∀ (g : Int → Int → Int) (ln : Int → Int) (kf : Int → Nat) (ρ : List Int) (a i x : Int), sv_BOk ρ q_m38.2.1 → (∀ f ∈ q_m38.2.2.1, sv_FQk q_Ks q_Q g ln kf ρ f) → sv_nth ρ 0 = some a → sv_nth ρ 1 = some i → sv_nth ρ 2 = some x → 0 ≤ a → 0 ≤ i → i < ln a → kf a = q_m38.1 → ∀ f ∈ q_m38.2.2.2, sv_FQk q_Ks q_Q (sv_put g a i x) ln kf ρ f := by
  intro g ln kf ρ a i x hb hf n0 n1 n2 p0 p1 p2 p3
  obtain ⟨hl, hb⟩ := hb
  obtain ⟨xa, r0, rfl, l0⟩ := sv_lens hl
  obtain ⟨xi, r1, rfl, l1⟩ := sv_lens l0
  obtain ⟨xx, r2, rfl, l2⟩ := sv_lens l1
  obtain ⟨xlo, r3, rfl, l3⟩ := sv_lens l2
  obtain ⟨xhi, r4, rfl, l4⟩ := sv_lens l3
  obtain ⟨xl, r5, rfl, l5⟩ := sv_lens l4
  obtain ⟨xu, r6, rfl, l6⟩ := sv_lens l5
  obtain rfl := sv_len0 l6
  clear l0 l1 l2 l3 l4 l5 l6 hl
  have ba : 0 ≤ xa := (hb 0 _ _ rfl rfl).1
  clear hb
  obtain rfl : xa = a := by simpa [sv_nth] using n0
  obtain rfl : xi = i := by simpa [sv_nth] using n1
  obtain rfl : xx = x := by simpa [sv_nth] using n2
  clear n0 n1 n2
  have p3 : kf xa = 101 := p3
  have h0 := hf _ (List.mem_of_getElem? (i := 0) rfl)
  simp [sv_FQk, sv_FQ, sv_evs, sv_ev, sv_evT, sv_nth, sv_adq, sv_gs, q_Ks_14, q_Q_14] at h0
  have h1 := hf _ (List.mem_of_getElem? (i := 1) rfl)
  simp [sv_FQk, sv_FQ, sv_evs, sv_ev, sv_evT, sv_nth, sv_adq, sv_gs] at h1
  clear hf
  obtain ⟨⟨-, Ka⟩, h0⟩ := h0
  rw [sv_Qlin_iff] at h0
  intro f hf
  have hf : f ∈ [(30, [], [(0, [(0, 1)]), (0, [(3, 1)]), (0, [(4, 1)]), (0, [(5, 1)]), (0, [(6, 1)])])] := hf
  simp only [List.mem_cons, List.not_mem_nil, or_false] at hf
  subst hf
  · simp [sv_FQk, sv_FQ, sv_evs, sv_ev, sv_evT, sv_nth, sv_adq, sv_gs, q_Ks_14, q_Q_14]
    refine ⟨⟨ba, Ka⟩, ?_⟩
    rw [sv_Qlin_iff]
    simp only [sv_put_eq]
    intro j j1 j2
    rw [if_neg (by omega)]
    exact h0 j j1 j2
