-- ===== laws of opaque facts =====
-- src_t
def q_l180 : SvM := ([(0, none), (0, none), (0, none), (0, none), (0, none), (0, none), (0, none), (-1180591620717411303424, none)], [(52, [], [(0, [(0, 1)]), (0, [(1, 1)]), (0, [(2, 1)]), (0, [(3, 1)]), (0, [(4, 1)]), (0, [(5, 1)]), (0, [(6, 1)]), (0, [(7, 1)])]), (53, [], [(0, [(0, 1)]), (0, [(3, 1)]), (0, [(4, 1)]), (0, [(5, 1)]), (0, [(6, 1)]), (0, [(7, 1)])]), (0, [], [(0, [(7, 1)])])], [(52, [], [(0, [(0, 1)]), (0, [(1, 1)]), (0, [(2, 1)]), (0, [(3, 1)]), (0, [(4, 1)]), (0, [(5, 1)]), (0, [(6, 1)]), (1, [(7, 1)])])])
theorem q_l180_ok : ∀ (g : Int → Int → Int) (ln : Int → Int) (kf : Int → Nat) (ρ : List Int), sv_BOk ρ q_l180.1 → (∀ f ∈ q_l180.2.1, sv_FQk q_Ks q_Q g ln kf ρ f) → ∀ f ∈ q_l180.2.2, sv_FQk q_Ks q_Q g ln kf ρ f := by
  intro g ln kf ρ hb hf
  obtain ⟨hl, hb⟩ := hb
  obtain ⟨xso, r0, rfl, l0⟩ := sv_lens hl
  obtain ⟨xsf, r1, rfl, l1⟩ := sv_lens l0
  obtain ⟨xen, r2, rfl, l2⟩ := sv_lens l1
  obtain ⟨xlv, r3, rfl, l3⟩ := sv_lens l2
  obtain ⟨xlo, r4, rfl, l4⟩ := sv_lens l3
  obtain ⟨xcu, r5, rfl, l5⟩ := sv_lens l4
  obtain ⟨xns, r6, rfl, l6⟩ := sv_lens l5
  obtain ⟨xn, r7, rfl, l7⟩ := sv_lens l6
  obtain rfl := sv_len0 l7
  clear l0 l1 l2 l3 l4 l5 l6 l7 hl
  have bso : 0 ≤ xso := (hb 0 _ _ rfl rfl).1
  have bsf : 0 ≤ xsf := (hb 1 _ _ rfl rfl).1
  have ben : 0 ≤ xen := (hb 2 _ _ rfl rfl).1
  have blv : 0 ≤ xlv := (hb 3 _ _ rfl rfl).1
  have blo : 0 ≤ xlo := (hb 4 _ _ rfl rfl).1
  have bcu : 0 ≤ xcu := (hb 5 _ _ rfl rfl).1
  have bns : 0 ≤ xns := (hb 6 _ _ rfl rfl).1
  clear hb
  have h0 := hf _ (List.mem_of_getElem? (i := 0) rfl)
  simp [sv_FQk, sv_FQ, sv_evs, sv_ev, sv_evT, sv_nth, sv_adq, sv_gs, q_Ks_36, q_Q_36] at h0
  have h1 := hf _ (List.mem_of_getElem? (i := 1) rfl)
  simp [sv_FQk, sv_FQ, sv_evs, sv_ev, sv_evT, sv_nth, sv_adq, sv_gs, q_Ks_37, q_Q_37] at h1
  have h2 := hf _ (List.mem_of_getElem? (i := 2) rfl)
  simp [sv_FQk, sv_FQ, sv_evs, sv_ev, sv_evT, sv_nth, sv_adq, sv_gs] at h2
  clear hf
  obtain ⟨⟨⟨-, Kso⟩, ⟨-, Ksf⟩, ⟨-, Ken⟩, ⟨-, Klv⟩, ⟨-, Klo⟩, ⟨-, Kcu⟩, ⟨-, Kns⟩⟩, h0⟩ := h0
  rw [sv_Qsrc_iff] at h0
  obtain ⟨⟨⟨-, Kso⟩, ⟨-, Klv⟩, ⟨-, Klo⟩, ⟨-, Kcu⟩, ⟨-, Kns⟩⟩, h1⟩ := h1
  rw [sv_Qsn_iff] at h1
  intro f hf
  have hf : f ∈ [(52, [], [(0, [(0, 1)]), (0, [(1, 1)]), (0, [(2, 1)]), (0, [(3, 1)]), (0, [(4, 1)]), (0, [(5, 1)]), (0, [(6, 1)]), (1, [(7, 1)])])] := hf
  simp only [List.mem_cons, List.not_mem_nil, or_false] at hf
  subst hf
  · simp [sv_FQk, sv_FQ, sv_evs, sv_ev, sv_evT, sv_nth, sv_adq, sv_gs, q_Ks_36, q_Q_36]
    refine ⟨⟨⟨bso, Kso⟩, ⟨bsf, Ksf⟩, ⟨ben, Ken⟩, ⟨blv, Klv⟩, ⟨blo, Klo⟩, ⟨bcu, Kcu⟩, ⟨bns, Kns⟩⟩, ?_⟩
    rw [sv_Qsrc_iff]
    intro t k t1 t2 k1 k2 k3
    by_cases e : t = xn
    · left
      rw [e] at k3 ⊢
      exact h1 k k1 k3
    · exact h0 t k t1 (by omega) k1 k2 k3
-- os_0
def q_l181 : SvM := ([(0, none), (0, none), (0, none), (0, none), (0, none), (0, none), (0, none), (0, none), (-1180591620717411303424, none), (-1180591620717411303424, none)], [(1, [109], [(0, [(0, 1)])]), (1, [110], [(0, [(1, 1)])]), (1, [111], [(0, [(2, 1)])]), (1, [84], [(0, [(3, 1)])]), (1, [75], [(0, [(4, 1)])]), (1, [76], [(0, [(5, 1)])]), (1, [77], [(0, [(6, 1)])]), (1, [78], [(0, [(7, 1)])]), (0, [], [(0, [(8, -1)])])], [(54, [], [(0, [(0, 1)]), (0, [(1, 1)]), (0, [(2, 1)]), (0, [(3, 1)]), (0, [(4, 1)]), (0, [(5, 1)]), (0, [(6, 1)]), (0, [(7, 1)]), (0, [(8, 1)]), (0, [(9, 1)])])])
theorem q_l181_ok : ∀ (g : Int → Int → Int) (ln : Int → Int) (kf : Int → Nat) (ρ : List Int), sv_BOk ρ q_l181.1 → (∀ f ∈ q_l181.2.1, sv_FQk q_Ks q_Q g ln kf ρ f) → ∀ f ∈ q_l181.2.2, sv_FQk q_Ks q_Q g ln kf ρ f := by
  intro g ln kf ρ hb hf
  obtain ⟨hl, hb⟩ := hb
  obtain ⟨xot, r0, rfl, l0⟩ := sv_lens hl
  obtain ⟨xof, r1, rfl, l1⟩ := sv_lens l0
  obtain ⟨xoz, r2, rfl, l2⟩ := sv_lens l1
  obtain ⟨xen, r3, rfl, l3⟩ := sv_lens l2
  obtain ⟨xlv, r4, rfl, l4⟩ := sv_lens l3
  obtain ⟨xlo, r5, rfl, l5⟩ := sv_lens l4
  obtain ⟨xcu, r6, rfl, l6⟩ := sv_lens l5
  obtain ⟨xns, r7, rfl, l7⟩ := sv_lens l6
  obtain ⟨xn, r8, rfl, l8⟩ := sv_lens l7
  obtain ⟨xtr, r9, rfl, l9⟩ := sv_lens l8
  obtain rfl := sv_len0 l9
  clear l0 l1 l2 l3 l4 l5 l6 l7 l8 l9 hl
  have bot : 0 ≤ xot := (hb 0 _ _ rfl rfl).1
  have bof : 0 ≤ xof := (hb 1 _ _ rfl rfl).1
  have boz : 0 ≤ xoz := (hb 2 _ _ rfl rfl).1
  have ben : 0 ≤ xen := (hb 3 _ _ rfl rfl).1
  have blv : 0 ≤ xlv := (hb 4 _ _ rfl rfl).1
  have blo : 0 ≤ xlo := (hb 5 _ _ rfl rfl).1
  have bcu : 0 ≤ xcu := (hb 6 _ _ rfl rfl).1
  have bns : 0 ≤ xns := (hb 7 _ _ rfl rfl).1
  clear hb
  have h0 := hf _ (List.mem_of_getElem? (i := 0) rfl)
  simp [sv_FQk, sv_FQ, sv_evs, sv_ev, sv_evT, sv_nth, sv_adq, sv_gs] at h0
  have h1 := hf _ (List.mem_of_getElem? (i := 1) rfl)
  simp [sv_FQk, sv_FQ, sv_evs, sv_ev, sv_evT, sv_nth, sv_adq, sv_gs] at h1
  have h2 := hf _ (List.mem_of_getElem? (i := 2) rfl)
  simp [sv_FQk, sv_FQ, sv_evs, sv_ev, sv_evT, sv_nth, sv_adq, sv_gs] at h2
  have h3 := hf _ (List.mem_of_getElem? (i := 3) rfl)
  simp [sv_FQk, sv_FQ, sv_evs, sv_ev, sv_evT, sv_nth, sv_adq, sv_gs] at h3
  have h4 := hf _ (List.mem_of_getElem? (i := 4) rfl)
  simp [sv_FQk, sv_FQ, sv_evs, sv_ev, sv_evT, sv_nth, sv_adq, sv_gs] at h4
  have h5 := hf _ (List.mem_of_getElem? (i := 5) rfl)
  simp [sv_FQk, sv_FQ, sv_evs, sv_ev, sv_evT, sv_nth, sv_adq, sv_gs] at h5
  have h6 := hf _ (List.mem_of_getElem? (i := 6) rfl)
  simp [sv_FQk, sv_FQ, sv_evs, sv_ev, sv_evT, sv_nth, sv_adq, sv_gs] at h6
  have h7 := hf _ (List.mem_of_getElem? (i := 7) rfl)
  simp [sv_FQk, sv_FQ, sv_evs, sv_ev, sv_evT, sv_nth, sv_adq, sv_gs] at h7
  have h8 := hf _ (List.mem_of_getElem? (i := 8) rfl)
  simp [sv_FQk, sv_FQ, sv_evs, sv_ev, sv_evT, sv_nth, sv_adq, sv_gs] at h8
  clear hf
  have Kot : kf xot = 109 := by omega
  have Kof : kf xof = 110 := by omega
  have Koz : kf xoz = 111 := by omega
  have Ken : kf xen = 84 := by omega
  have Klv : kf xlv = 75 := by omega
  have Klo : kf xlo = 76 := by omega
  have Kcu : kf xcu = 77 := by omega
  have Kns : kf xns = 78 := by omega
  intro f hf
  have hf : f ∈ [(54, [], [(0, [(0, 1)]), (0, [(1, 1)]), (0, [(2, 1)]), (0, [(3, 1)]), (0, [(4, 1)]), (0, [(5, 1)]), (0, [(6, 1)]), (0, [(7, 1)]), (0, [(8, 1)]), (0, [(9, 1)])])] := hf
  simp only [List.mem_cons, List.not_mem_nil, or_false] at hf
  subst hf
  · simp [sv_FQk, sv_FQ, sv_evs, sv_ev, sv_evT, sv_nth, sv_adq, sv_gs, q_Ks_38, q_Q_38]
    refine ⟨⟨⟨bot, Kot⟩, ⟨bof, Kof⟩, ⟨boz, Koz⟩, ⟨ben, Ken⟩, ⟨blv, Klv⟩, ⟨blo, Klo⟩, ⟨bcu, Kcu⟩, ⟨bns, Kns⟩⟩, ?_⟩
    rw [sv_Qos_iff]
    intro o o1 o2
    omega
-- os_w
def q_l182 : SvM := ([(0, none), (0, none), (0, none), (0, none), (0, none), (0, none), (0, none), (0, none), (-1180591620717411303424, none), (-1180591620717411303424, none), (-1180591620717411303424, none)], [(54, [], [(0, [(0, 1)]), (0, [(1, 1)]), (0, [(2, 1)]), (0, [(3, 1)]), (0, [(4, 1)]), (0, [(5, 1)]), (0, [(6, 1)]), (0, [(7, 1)]), (0, [(8, 1)]), (0, [(9, 1)])]), (0, [], [(0, [(9, -1), (10, 1)])])], [(54, [], [(0, [(0, 1)]), (0, [(1, 1)]), (0, [(2, 1)]), (0, [(3, 1)]), (0, [(4, 1)]), (0, [(5, 1)]), (0, [(6, 1)]), (0, [(7, 1)]), (0, [(8, 1)]), (0, [(10, 1)])])])
theorem q_l182_ok : ∀ (g : Int → Int → Int) (ln : Int → Int) (kf : Int → Nat) (ρ : List Int), sv_BOk ρ q_l182.1 → (∀ f ∈ q_l182.2.1, sv_FQk q_Ks q_Q g ln kf ρ f) → ∀ f ∈ q_l182.2.2, sv_FQk q_Ks q_Q g ln kf ρ f := by
  intro g ln kf ρ hb hf
  obtain ⟨hl, hb⟩ := hb
  obtain ⟨xot, r0, rfl, l0⟩ := sv_lens hl
  obtain ⟨xof, r1, rfl, l1⟩ := sv_lens l0
  obtain ⟨xoz, r2, rfl, l2⟩ := sv_lens l1
  obtain ⟨xen, r3, rfl, l3⟩ := sv_lens l2
  obtain ⟨xlv, r4, rfl, l4⟩ := sv_lens l3
  obtain ⟨xlo, r5, rfl, l5⟩ := sv_lens l4
  obtain ⟨xcu, r6, rfl, l6⟩ := sv_lens l5
  obtain ⟨xns, r7, rfl, l7⟩ := sv_lens l6
  obtain ⟨xn, r8, rfl, l8⟩ := sv_lens l7
  obtain ⟨xtr, r9, rfl, l9⟩ := sv_lens l8
  obtain ⟨xtq, r10, rfl, l10⟩ := sv_lens l9
  obtain rfl := sv_len0 l10
  clear l0 l1 l2 l3 l4 l5 l6 l7 l8 l9 l10 hl
  have bot : 0 ≤ xot := (hb 0 _ _ rfl rfl).1
  have bof : 0 ≤ xof := (hb 1 _ _ rfl rfl).1
  have boz : 0 ≤ xoz := (hb 2 _ _ rfl rfl).1
  have ben : 0 ≤ xen := (hb 3 _ _ rfl rfl).1
  have blv : 0 ≤ xlv := (hb 4 _ _ rfl rfl).1
  have blo : 0 ≤ xlo := (hb 5 _ _ rfl rfl).1
  have bcu : 0 ≤ xcu := (hb 6 _ _ rfl rfl).1
  have bns : 0 ≤ xns := (hb 7 _ _ rfl rfl).1
  clear hb
  have h0 := hf _ (List.mem_of_getElem? (i := 0) rfl)
  simp [sv_FQk, sv_FQ, sv_evs, sv_ev, sv_evT, sv_nth, sv_adq, sv_gs, q_Ks_38, q_Q_38] at h0
  have h1 := hf _ (List.mem_of_getElem? (i := 1) rfl)
  simp [sv_FQk, sv_FQ, sv_evs, sv_ev, sv_evT, sv_nth, sv_adq, sv_gs] at h1
  clear hf
  obtain ⟨⟨⟨-, Kot⟩, ⟨-, Kof⟩, ⟨-, Koz⟩, ⟨-, Ken⟩, ⟨-, Klv⟩, ⟨-, Klo⟩, ⟨-, Kcu⟩, ⟨-, Kns⟩⟩, h0⟩ := h0
  rw [sv_Qos_iff] at h0
  intro f hf
  have hf : f ∈ [(54, [], [(0, [(0, 1)]), (0, [(1, 1)]), (0, [(2, 1)]), (0, [(3, 1)]), (0, [(4, 1)]), (0, [(5, 1)]), (0, [(6, 1)]), (0, [(7, 1)]), (0, [(8, 1)]), (0, [(10, 1)])])] := hf
  simp only [List.mem_cons, List.not_mem_nil, or_false] at hf
  subst hf
  · simp [sv_FQk, sv_FQ, sv_evs, sv_ev, sv_evT, sv_nth, sv_adq, sv_gs, q_Ks_38, q_Q_38]
    refine ⟨⟨⟨bot, Kot⟩, ⟨bof, Kof⟩, ⟨boz, Koz⟩, ⟨ben, Ken⟩, ⟨blv, Klv⟩, ⟨blo, Klo⟩, ⟨bcu, Kcu⟩, ⟨bns, Kns⟩⟩, ?_⟩
    rw [sv_Qos_iff]
    intro o o1 o2
    have q := h0 o o1 o2
    exact ⟨q.1, by omega, q.2.2⟩
-- os_a
def q_l183 : SvM := ([(0, none), (0, none), (0, none), (0, none), (0, none), (0, none), (0, none), (0, none), (-1180591620717411303424, none), (-1180591620717411303424, none), (-1180591620717411303424, none), (-1180591620717411303424, none), (-1180591620717411303424, none), (-1180591620717411303424, none), (-1180591620717411303424, none), (-1180591620717411303424, none), (-1180591620717411303424, none), (-1180591620717411303424, none), (-1180591620717411303424, none), (-1180591620717411303424, none), (-1180591620717411303424, none), (-1180591620717411303424, none), (-1180591620717411303424, none), (-1180591620717411303424, none), (-1180591620717411303424, none), (-1180591620717411303424, none), (-1180591620717411303424, none)], [(54, [], [(0, [(0, 1)]), (0, [(1, 1)]), (0, [(2, 1)]), (0, [(3, 1)]), (0, [(4, 1)]), (0, [(5, 1)]), (0, [(6, 1)]), (0, [(7, 1)]), (0, [(8, 1)]), (0, [(9, 1)])]), (4, [109, 1], [(0, [(0, 1)]), (0, [(10, 1)]), (0, [(11, 1)])]), (2, [], [(0, [(0, 1)]), (0, [(12, 1)])]), (0, [], [(-1, [(10, -1), (12, 1)])]), (4, [110, 1], [(0, [(1, 1)]), (0, [(10, 1)]), (0, [(13, 1)])]), (2, [], [(0, [(1, 1)]), (0, [(14, 1)])]), (0, [], [(-1, [(10, -1), (14, 1)])]), (4, [111, 1], [(0, [(2, 1)]), (0, [(10, 1)]), (0, [(15, 1)])]), (2, [], [(0, [(2, 1)]), (0, [(16, 1)])]), (0, [], [(-1, [(10, -1), (16, 1)])]), (0, [], [(0, [(8, 1), (10, -1)])]), (0, [], [(0, [(8, -1), (10, 1)])]), (0, [], [(0, [(10, 1)])]), (0, [], [(0, [(11, 1)])]), (0, [], [(-1, [(9, 1), (11, -1)])]), (0, [], [(0, [(13, 1)])]), (0, [], [(149, [(13, -1)])]), (4, [84, 1], [(0, [(3, 1)]), (0, [(11, 150), (13, 1)]), (0, [(17, 1)])]), (2, [], [(0, [(3, 1)]), (0, [(18, 1)])]), (0, [], [(-1, [(11, -150), (13, -1), (18, 1)])]), (4, [75, 1], [(0, [(4, 1)]), (0, [(11, 1)]), (0, [(19, 1)])]), (2, [], [(0, [(4, 1)]), (0, [(20, 1)])]), (0, [], [(-1, [(11, -1), (20, 1)])]), (4, [76, 1], [(0, [(5, 1)]), (0, [(11, 1)]), (0, [(21, 1)])]), (2, [], [(0, [(5, 1)]), (0, [(22, 1)])]), (0, [], [(-1, [(11, -1), (22, 1)])]), (4, [77, 1], [(0, [(6, 1)]), (0, [(11, 1)]), (0, [(23, 1)])]), (2, [], [(0, [(6, 1)]), (0, [(24, 1)])]), (0, [], [(-1, [(11, -1), (24, 1)])]), (4, [78, 1], [(0, [(7, 1)]), (0, [(11, 1)]), (0, [(25, 1)])]), (2, [], [(0, [(7, 1)]), (0, [(26, 1)])]), (0, [], [(-1, [(11, -1), (26, 1)])]), (0, [], [(-1, [(13, -1), (19, 1), (21, 1), (23, 1), (25, 1)])]), (0, [], [(0, [(15, -1), (17, 1)])])], [(54, [], [(0, [(0, 1)]), (0, [(1, 1)]), (0, [(2, 1)]), (0, [(3, 1)]), (0, [(4, 1)]), (0, [(5, 1)]), (0, [(6, 1)]), (0, [(7, 1)]), (1, [(8, 1)]), (0, [(9, 1)])])])
theorem q_l183_ok : ∀ (g : Int → Int → Int) (ln : Int → Int) (kf : Int → Nat) (ρ : List Int), sv_BOk ρ q_l183.1 → (∀ f ∈ q_l183.2.1, sv_FQk q_Ks q_Q g ln kf ρ f) → ∀ f ∈ q_l183.2.2, sv_FQk q_Ks q_Q g ln kf ρ f := by
  intro g ln kf ρ hb hf
  obtain ⟨hl, hb⟩ := hb
  obtain ⟨xot, r0, rfl, l0⟩ := sv_lens hl
  obtain ⟨xof, r1, rfl, l1⟩ := sv_lens l0
  obtain ⟨xoz, r2, rfl, l2⟩ := sv_lens l1
  obtain ⟨xen, r3, rfl, l3⟩ := sv_lens l2
  obtain ⟨xlv, r4, rfl, l4⟩ := sv_lens l3
  obtain ⟨xlo, r5, rfl, l5⟩ := sv_lens l4
  obtain ⟨xcu, r6, rfl, l6⟩ := sv_lens l5
  obtain ⟨xns, r7, rfl, l7⟩ := sv_lens l6
  obtain ⟨xn, r8, rfl, l8⟩ := sv_lens l7
  obtain ⟨xtr, r9, rfl, l9⟩ := sv_lens l8
  obtain ⟨xo, r10, rfl, l10⟩ := sv_lens l9
  obtain ⟨xt, r11, rfl, l11⟩ := sv_lens l10
  obtain ⟨xN1, r12, rfl, l12⟩ := sv_lens l11
  obtain ⟨xf, r13, rfl, l13⟩ := sv_lens l12
  obtain ⟨xN2, r14, rfl, l14⟩ := sv_lens l13
  obtain ⟨xs, r15, rfl, l15⟩ := sv_lens l14
  obtain ⟨xN3, r16, rfl, l16⟩ := sv_lens l15
  obtain ⟨xe, r17, rfl, l17⟩ := sv_lens l16
  obtain ⟨xN4, r18, rfl, l18⟩ := sv_lens l17
  obtain ⟨xy1, r19, rfl, l19⟩ := sv_lens l18
  obtain ⟨xM1, r20, rfl, l20⟩ := sv_lens l19
  obtain ⟨xy2, r21, rfl, l21⟩ := sv_lens l20
  obtain ⟨xM2, r22, rfl, l22⟩ := sv_lens l21
  obtain ⟨xy3, r23, rfl, l23⟩ := sv_lens l22
  obtain ⟨xM3, r24, rfl, l24⟩ := sv_lens l23
  obtain ⟨xy4, r25, rfl, l25⟩ := sv_lens l24
  obtain ⟨xM4, r26, rfl, l26⟩ := sv_lens l25
  obtain rfl := sv_len0 l26
  clear l0 l1 l2 l3 l4 l5 l6 l7 l8 l9 l10 l11 l12 l13 l14 l15 l16 l17 l18 l19 l20 l21 l22 l23 l24 l25 l26 hl
  have bot : 0 ≤ xot := (hb 0 _ _ rfl rfl).1
  have bof : 0 ≤ xof := (hb 1 _ _ rfl rfl).1
  have boz : 0 ≤ xoz := (hb 2 _ _ rfl rfl).1
  have ben : 0 ≤ xen := (hb 3 _ _ rfl rfl).1
  have blv : 0 ≤ xlv := (hb 4 _ _ rfl rfl).1
  have blo : 0 ≤ xlo := (hb 5 _ _ rfl rfl).1
  have bcu : 0 ≤ xcu := (hb 6 _ _ rfl rfl).1
  have bns : 0 ≤ xns := (hb 7 _ _ rfl rfl).1
  clear hb
  have h0 := hf _ (List.mem_of_getElem? (i := 0) rfl)
  simp [sv_FQk, sv_FQ, sv_evs, sv_ev, sv_evT, sv_nth, sv_adq, sv_gs, q_Ks_38, q_Q_38] at h0
  have h1 := hf _ (List.mem_of_getElem? (i := 1) rfl)
  simp [sv_FQk, sv_FQ, sv_evs, sv_ev, sv_evT, sv_nth, sv_adq, sv_gs] at h1
  have h2 := hf _ (List.mem_of_getElem? (i := 2) rfl)
  simp [sv_FQk, sv_FQ, sv_evs, sv_ev, sv_evT, sv_nth, sv_adq, sv_gs] at h2
  have h3 := hf _ (List.mem_of_getElem? (i := 3) rfl)
  simp [sv_FQk, sv_FQ, sv_evs, sv_ev, sv_evT, sv_nth, sv_adq, sv_gs] at h3
  have h4 := hf _ (List.mem_of_getElem? (i := 4) rfl)
  simp [sv_FQk, sv_FQ, sv_evs, sv_ev, sv_evT, sv_nth, sv_adq, sv_gs] at h4
  have h5 := hf _ (List.mem_of_getElem? (i := 5) rfl)
  simp [sv_FQk, sv_FQ, sv_evs, sv_ev, sv_evT, sv_nth, sv_adq, sv_gs] at h5
  have h6 := hf _ (List.mem_of_getElem? (i := 6) rfl)
  simp [sv_FQk, sv_FQ, sv_evs, sv_ev, sv_evT, sv_nth, sv_adq, sv_gs] at h6
  have h7 := hf _ (List.mem_of_getElem? (i := 7) rfl)
  simp [sv_FQk, sv_FQ, sv_evs, sv_ev, sv_evT, sv_nth, sv_adq, sv_gs] at h7
  have h8 := hf _ (List.mem_of_getElem? (i := 8) rfl)
  simp [sv_FQk, sv_FQ, sv_evs, sv_ev, sv_evT, sv_nth, sv_adq, sv_gs] at h8
  have h9 := hf _ (List.mem_of_getElem? (i := 9) rfl)
  simp [sv_FQk, sv_FQ, sv_evs, sv_ev, sv_evT, sv_nth, sv_adq, sv_gs] at h9
  have h10 := hf _ (List.mem_of_getElem? (i := 10) rfl)
  simp [sv_FQk, sv_FQ, sv_evs, sv_ev, sv_evT, sv_nth, sv_adq, sv_gs] at h10
  have h11 := hf _ (List.mem_of_getElem? (i := 11) rfl)
  simp [sv_FQk, sv_FQ, sv_evs, sv_ev, sv_evT, sv_nth, sv_adq, sv_gs] at h11
  have h12 := hf _ (List.mem_of_getElem? (i := 12) rfl)
  simp [sv_FQk, sv_FQ, sv_evs, sv_ev, sv_evT, sv_nth, sv_adq, sv_gs] at h12
  have h13 := hf _ (List.mem_of_getElem? (i := 13) rfl)
  simp [sv_FQk, sv_FQ, sv_evs, sv_ev, sv_evT, sv_nth, sv_adq, sv_gs] at h13
  have h14 := hf _ (List.mem_of_getElem? (i := 14) rfl)
  simp [sv_FQk, sv_FQ, sv_evs, sv_ev, sv_evT, sv_nth, sv_adq, sv_gs] at h14
  have h15 := hf _ (List.mem_of_getElem? (i := 15) rfl)
  simp [sv_FQk, sv_FQ, sv_evs, sv_ev, sv_evT, sv_nth, sv_adq, sv_gs] at h15
  have h16 := hf _ (List.mem_of_getElem? (i := 16) rfl)
  simp [sv_FQk, sv_FQ, sv_evs, sv_ev, sv_evT, sv_nth, sv_adq, sv_gs] at h16
  have h17 := hf _ (List.mem_of_getElem? (i := 17) rfl)
  simp [sv_FQk, sv_FQ, sv_evs, sv_ev, sv_evT, sv_nth, sv_adq, sv_gs] at h17
  have h18 := hf _ (List.mem_of_getElem? (i := 18) rfl)
  simp [sv_FQk, sv_FQ, sv_evs, sv_ev, sv_evT, sv_nth, sv_adq, sv_gs] at h18
  have h19 := hf _ (List.mem_of_getElem? (i := 19) rfl)
  simp [sv_FQk, sv_FQ, sv_evs, sv_ev, sv_evT, sv_nth, sv_adq, sv_gs] at h19
  have h20 := hf _ (List.mem_of_getElem? (i := 20) rfl)
  simp [sv_FQk, sv_FQ, sv_evs, sv_ev, sv_evT, sv_nth, sv_adq, sv_gs] at h20
  have h21 := hf _ (List.mem_of_getElem? (i := 21) rfl)
  simp [sv_FQk, sv_FQ, sv_evs, sv_ev, sv_evT, sv_nth, sv_adq, sv_gs] at h21
  have h22 := hf _ (List.mem_of_getElem? (i := 22) rfl)
  simp [sv_FQk, sv_FQ, sv_evs, sv_ev, sv_evT, sv_nth, sv_adq, sv_gs] at h22
  have h23 := hf _ (List.mem_of_getElem? (i := 23) rfl)
  simp [sv_FQk, sv_FQ, sv_evs, sv_ev, sv_evT, sv_nth, sv_adq, sv_gs] at h23
  have h24 := hf _ (List.mem_of_getElem? (i := 24) rfl)
  simp [sv_FQk, sv_FQ, sv_evs, sv_ev, sv_evT, sv_nth, sv_adq, sv_gs] at h24
  have h25 := hf _ (List.mem_of_getElem? (i := 25) rfl)
  simp [sv_FQk, sv_FQ, sv_evs, sv_ev, sv_evT, sv_nth, sv_adq, sv_gs] at h25
  have h26 := hf _ (List.mem_of_getElem? (i := 26) rfl)
  simp [sv_FQk, sv_FQ, sv_evs, sv_ev, sv_evT, sv_nth, sv_adq, sv_gs] at h26
  have h27 := hf _ (List.mem_of_getElem? (i := 27) rfl)
  simp [sv_FQk, sv_FQ, sv_evs, sv_ev, sv_evT, sv_nth, sv_adq, sv_gs] at h27
  have h28 := hf _ (List.mem_of_getElem? (i := 28) rfl)
  simp [sv_FQk, sv_FQ, sv_evs, sv_ev, sv_evT, sv_nth, sv_adq, sv_gs] at h28
  have h29 := hf _ (List.mem_of_getElem? (i := 29) rfl)
  simp [sv_FQk, sv_FQ, sv_evs, sv_ev, sv_evT, sv_nth, sv_adq, sv_gs] at h29
  have h30 := hf _ (List.mem_of_getElem? (i := 30) rfl)
  simp [sv_FQk, sv_FQ, sv_evs, sv_ev, sv_evT, sv_nth, sv_adq, sv_gs] at h30
  have h31 := hf _ (List.mem_of_getElem? (i := 31) rfl)
  simp [sv_FQk, sv_FQ, sv_evs, sv_ev, sv_evT, sv_nth, sv_adq, sv_gs] at h31
  have h32 := hf _ (List.mem_of_getElem? (i := 32) rfl)
  simp [sv_FQk, sv_FQ, sv_evs, sv_ev, sv_evT, sv_nth, sv_adq, sv_gs] at h32
  have h33 := hf _ (List.mem_of_getElem? (i := 33) rfl)
  simp [sv_FQk, sv_FQ, sv_evs, sv_ev, sv_evT, sv_nth, sv_adq, sv_gs] at h33
  clear hf
  obtain ⟨⟨⟨-, Kot⟩, ⟨-, Kof⟩, ⟨-, Koz⟩, ⟨-, Ken⟩, ⟨-, Klv⟩, ⟨-, Klo⟩, ⟨-, Kcu⟩, ⟨-, Kns⟩⟩, h0⟩ := h0
  rw [sv_Qos_iff] at h0
  replace h1 := h1 bot (by omega) (by have := h2 bot; omega)
  replace h4 := h4 bof (by omega) (by have := h5 bof; omega)
  replace h7 := h7 boz (by omega) (by have := h8 boz; omega)
  replace h17 := h17 ben (by omega) (by have := h18 ben; omega)
  replace h20 := h20 blv (by omega) (by have := h21 blv; omega)
  replace h23 := h23 blo (by omega) (by have := h24 blo; omega)
  replace h26 := h26 bcu (by omega) (by have := h27 bcu; omega)
  replace h29 := h29 bns (by omega) (by have := h30 bns; omega)
  intro f hf
  have hf : f ∈ [(54, [], [(0, [(0, 1)]), (0, [(1, 1)]), (0, [(2, 1)]), (0, [(3, 1)]), (0, [(4, 1)]), (0, [(5, 1)]), (0, [(6, 1)]), (0, [(7, 1)]), (1, [(8, 1)]), (0, [(9, 1)])])] := hf
  simp only [List.mem_cons, List.not_mem_nil, or_false] at hf
  subst hf
  · simp [sv_FQk, sv_FQ, sv_evs, sv_ev, sv_evT, sv_nth, sv_adq, sv_gs, q_Ks_38, q_Q_38]
    refine ⟨⟨⟨bot, Kot⟩, ⟨bof, Kof⟩, ⟨boz, Koz⟩, ⟨ben, Ken⟩, ⟨blv, Klv⟩, ⟨blo, Klo⟩, ⟨bcu, Kcu⟩, ⟨bns, Kns⟩⟩, ?_⟩
    rw [sv_Qos_iff]
    intro p p1 p2
    by_cases e : p = xo
    · have u : g xen (150 * xt + xf) = xe := sv_fat (by omega) h17
      rw [e, h1, h4, h7, u]
      omega
    · exact h0 p p1 (by omega)
-- os_t
def q_l184 : SvM := ([(0, none), (0, none), (0, none), (0, none), (0, none), (0, none), (0, none), (0, none), (-1180591620717411303424, none), (-1180591620717411303424, none), (-1180591620717411303424, none), (-1180591620717411303424, none), (-1180591620717411303424, none)], [(54, [], [(0, [(0, 1)]), (0, [(1, 1)]), (0, [(2, 1)]), (0, [(3, 1)]), (0, [(4, 1)]), (0, [(5, 1)]), (0, [(6, 1)]), (0, [(7, 1)]), (0, [(8, 1)]), (0, [(9, 1)])]), (4, [109, 1], [(0, [(0, 1)]), (0, [(10, 1)]), (0, [(11, 1)])]), (2, [], [(0, [(0, 1)]), (0, [(12, 1)])]), (0, [], [(0, [(10, 1)])]), (0, [], [(-1, [(8, 1), (10, -1)])]), (0, [], [(-1, [(10, -1), (12, 1)])])], [(0, [], [(0, [(11, 1)])]), (0, [], [(-1, [(9, 1), (11, -1)])])])
theorem q_l184_ok : ∀ (g : Int → Int → Int) (ln : Int → Int) (kf : Int → Nat) (ρ : List Int), sv_BOk ρ q_l184.1 → (∀ f ∈ q_l184.2.1, sv_FQk q_Ks q_Q g ln kf ρ f) → ∀ f ∈ q_l184.2.2, sv_FQk q_Ks q_Q g ln kf ρ f := by
  intro g ln kf ρ hb hf
  obtain ⟨hl, hb⟩ := hb
  obtain ⟨xot, r0, rfl, l0⟩ := sv_lens hl
  obtain ⟨xof, r1, rfl, l1⟩ := sv_lens l0
  obtain ⟨xoz, r2, rfl, l2⟩ := sv_lens l1
  obtain ⟨xen, r3, rfl, l3⟩ := sv_lens l2
  obtain ⟨xlv, r4, rfl, l4⟩ := sv_lens l3
  obtain ⟨xlo, r5, rfl, l5⟩ := sv_lens l4
  obtain ⟨xcu, r6, rfl, l6⟩ := sv_lens l5
  obtain ⟨xns, r7, rfl, l7⟩ := sv_lens l6
  obtain ⟨xn, r8, rfl, l8⟩ := sv_lens l7
  obtain ⟨xtr, r9, rfl, l9⟩ := sv_lens l8
  obtain ⟨xo, r10, rfl, l10⟩ := sv_lens l9
  obtain ⟨xt, r11, rfl, l11⟩ := sv_lens l10
  obtain ⟨xN1, r12, rfl, l12⟩ := sv_lens l11
  obtain rfl := sv_len0 l12
  clear l0 l1 l2 l3 l4 l5 l6 l7 l8 l9 l10 l11 l12 hl
  have bot : 0 ≤ xot := (hb 0 _ _ rfl rfl).1
  have bof : 0 ≤ xof := (hb 1 _ _ rfl rfl).1
  have boz : 0 ≤ xoz := (hb 2 _ _ rfl rfl).1
  have ben : 0 ≤ xen := (hb 3 _ _ rfl rfl).1
  have blv : 0 ≤ xlv := (hb 4 _ _ rfl rfl).1
  have blo : 0 ≤ xlo := (hb 5 _ _ rfl rfl).1
  have bcu : 0 ≤ xcu := (hb 6 _ _ rfl rfl).1
  have bns : 0 ≤ xns := (hb 7 _ _ rfl rfl).1
  clear hb
  have h0 := hf _ (List.mem_of_getElem? (i := 0) rfl)
  simp [sv_FQk, sv_FQ, sv_evs, sv_ev, sv_evT, sv_nth, sv_adq, sv_gs, q_Ks_38, q_Q_38] at h0
  have h1 := hf _ (List.mem_of_getElem? (i := 1) rfl)
  simp [sv_FQk, sv_FQ, sv_evs, sv_ev, sv_evT, sv_nth, sv_adq, sv_gs] at h1
  have h2 := hf _ (List.mem_of_getElem? (i := 2) rfl)
  simp [sv_FQk, sv_FQ, sv_evs, sv_ev, sv_evT, sv_nth, sv_adq, sv_gs] at h2
  have h3 := hf _ (List.mem_of_getElem? (i := 3) rfl)
  simp [sv_FQk, sv_FQ, sv_evs, sv_ev, sv_evT, sv_nth, sv_adq, sv_gs] at h3
  have h4 := hf _ (List.mem_of_getElem? (i := 4) rfl)
  simp [sv_FQk, sv_FQ, sv_evs, sv_ev, sv_evT, sv_nth, sv_adq, sv_gs] at h4
  have h5 := hf _ (List.mem_of_getElem? (i := 5) rfl)
  simp [sv_FQk, sv_FQ, sv_evs, sv_ev, sv_evT, sv_nth, sv_adq, sv_gs] at h5
  clear hf
  obtain ⟨⟨⟨-, Kot⟩, ⟨-, Kof⟩, ⟨-, Koz⟩, ⟨-, Ken⟩, ⟨-, Klv⟩, ⟨-, Klo⟩, ⟨-, Kcu⟩, ⟨-, Kns⟩⟩, h0⟩ := h0
  rw [sv_Qos_iff] at h0
  replace h1 := h1 bot (by omega) (by have := h2 bot; omega)
  intro f hf
  have hf : f ∈ [(0, [], [(0, [(11, 1)])]), (0, [], [(-1, [(9, 1), (11, -1)])])] := hf
  simp only [List.mem_cons, List.not_mem_nil, or_false] at hf
  rcases hf with rfl | rfl
  · simp [sv_FQk, sv_FQ, sv_evs, sv_ev, sv_evT, sv_nth, sv_adq, sv_gs]
    have q := h0 xo (by omega) (by omega)
    rw [h1] at q
    omega
  · simp [sv_FQk, sv_FQ, sv_evs, sv_ev, sv_evT, sv_nth, sv_adq, sv_gs]
    have q := h0 xo (by omega) (by omega)
    rw [h1] at q
    omega
-- os_f
def q_l185 : SvM := ([(0, none), (0, none), (0, none), (0, none), (0, none), (0, none), (0, none), (0, none), (-1180591620717411303424, none), (-1180591620717411303424, none), (-1180591620717411303424, none), (-1180591620717411303424, none), (-1180591620717411303424, none), (-1180591620717411303424, none), (-1180591620717411303424, none), (-1180591620717411303424, none), (-1180591620717411303424, none), (-1180591620717411303424, none), (-1180591620717411303424, none), (-1180591620717411303424, none), (-1180591620717411303424, none), (-1180591620717411303424, none), (-1180591620717411303424, none)], [(54, [], [(0, [(0, 1)]), (0, [(1, 1)]), (0, [(2, 1)]), (0, [(3, 1)]), (0, [(4, 1)]), (0, [(5, 1)]), (0, [(6, 1)]), (0, [(7, 1)]), (0, [(8, 1)]), (0, [(9, 1)])]), (4, [109, 1], [(0, [(0, 1)]), (0, [(10, 1)]), (0, [(11, 1)])]), (2, [], [(0, [(0, 1)]), (0, [(12, 1)])]), (0, [], [(-1, [(10, -1), (12, 1)])]), (4, [110, 1], [(0, [(1, 1)]), (0, [(10, 1)]), (0, [(13, 1)])]), (2, [], [(0, [(1, 1)]), (0, [(14, 1)])]), (0, [], [(-1, [(10, -1), (14, 1)])]), (0, [], [(0, [(10, 1)])]), (0, [], [(-1, [(8, 1), (10, -1)])]), (0, [], [(0, [(11, 1)])]), (4, [75, 1], [(0, [(4, 1)]), (0, [(11, 1)]), (0, [(15, 1)])]), (2, [], [(0, [(4, 1)]), (0, [(16, 1)])]), (0, [], [(-1, [(11, -1), (16, 1)])]), (4, [76, 1], [(0, [(5, 1)]), (0, [(11, 1)]), (0, [(17, 1)])]), (2, [], [(0, [(5, 1)]), (0, [(18, 1)])]), (0, [], [(-1, [(11, -1), (18, 1)])]), (4, [77, 1], [(0, [(6, 1)]), (0, [(11, 1)]), (0, [(19, 1)])]), (2, [], [(0, [(6, 1)]), (0, [(20, 1)])]), (0, [], [(-1, [(11, -1), (20, 1)])]), (4, [78, 1], [(0, [(7, 1)]), (0, [(11, 1)]), (0, [(21, 1)])]), (2, [], [(0, [(7, 1)]), (0, [(22, 1)])]), (0, [], [(-1, [(11, -1), (22, 1)])])], [(0, [], [(0, [(13, 1)])]), (0, [], [(149, [(13, -1)])]), (0, [], [(-1, [(13, -1), (15, 1), (17, 1), (19, 1), (21, 1)])])])
theorem q_l185_ok : ∀ (g : Int → Int → Int) (ln : Int → Int) (kf : Int → Nat) (ρ : List Int), sv_BOk ρ q_l185.1 → (∀ f ∈ q_l185.2.1, sv_FQk q_Ks q_Q g ln kf ρ f) → ∀ f ∈ q_l185.2.2, sv_FQk q_Ks q_Q g ln kf ρ f := by
  intro g ln kf ρ hb hf
  obtain ⟨hl, hb⟩ := hb
  obtain ⟨xot, r0, rfl, l0⟩ := sv_lens hl
  obtain ⟨xof, r1, rfl, l1⟩ := sv_lens l0
  obtain ⟨xoz, r2, rfl, l2⟩ := sv_lens l1
  obtain ⟨xen, r3, rfl, l3⟩ := sv_lens l2
  obtain ⟨xlv, r4, rfl, l4⟩ := sv_lens l3
  obtain ⟨xlo, r5, rfl, l5⟩ := sv_lens l4
  obtain ⟨xcu, r6, rfl, l6⟩ := sv_lens l5
  obtain ⟨xns, r7, rfl, l7⟩ := sv_lens l6
  obtain ⟨xn, r8, rfl, l8⟩ := sv_lens l7
  obtain ⟨xtr, r9, rfl, l9⟩ := sv_lens l8
  obtain ⟨xo, r10, rfl, l10⟩ := sv_lens l9
  obtain ⟨xt, r11, rfl, l11⟩ := sv_lens l10
  obtain ⟨xN1, r12, rfl, l12⟩ := sv_lens l11
  obtain ⟨xf, r13, rfl, l13⟩ := sv_lens l12
  obtain ⟨xN2, r14, rfl, l14⟩ := sv_lens l13
  obtain ⟨xy1, r15, rfl, l15⟩ := sv_lens l14
  obtain ⟨xM1, r16, rfl, l16⟩ := sv_lens l15
  obtain ⟨xy2, r17, rfl, l17⟩ := sv_lens l16
  obtain ⟨xM2, r18, rfl, l18⟩ := sv_lens l17
  obtain ⟨xy3, r19, rfl, l19⟩ := sv_lens l18
  obtain ⟨xM3, r20, rfl, l20⟩ := sv_lens l19
  obtain ⟨xy4, r21, rfl, l21⟩ := sv_lens l20
  obtain ⟨xM4, r22, rfl, l22⟩ := sv_lens l21
  obtain rfl := sv_len0 l22
  clear l0 l1 l2 l3 l4 l5 l6 l7 l8 l9 l10 l11 l12 l13 l14 l15 l16 l17 l18 l19 l20 l21 l22 hl
  have bot : 0 ≤ xot := (hb 0 _ _ rfl rfl).1
  have bof : 0 ≤ xof := (hb 1 _ _ rfl rfl).1
  have boz : 0 ≤ xoz := (hb 2 _ _ rfl rfl).1
  have ben : 0 ≤ xen := (hb 3 _ _ rfl rfl).1
  have blv : 0 ≤ xlv := (hb 4 _ _ rfl rfl).1
  have blo : 0 ≤ xlo := (hb 5 _ _ rfl rfl).1
  have bcu : 0 ≤ xcu := (hb 6 _ _ rfl rfl).1
  have bns : 0 ≤ xns := (hb 7 _ _ rfl rfl).1
  clear hb
  have h0 := hf _ (List.mem_of_getElem? (i := 0) rfl)
  simp [sv_FQk, sv_FQ, sv_evs, sv_ev, sv_evT, sv_nth, sv_adq, sv_gs, q_Ks_38, q_Q_38] at h0
  have h1 := hf _ (List.mem_of_getElem? (i := 1) rfl)
  simp [sv_FQk, sv_FQ, sv_evs, sv_ev, sv_evT, sv_nth, sv_adq, sv_gs] at h1
  have h2 := hf _ (List.mem_of_getElem? (i := 2) rfl)
  simp [sv_FQk, sv_FQ, sv_evs, sv_ev, sv_evT, sv_nth, sv_adq, sv_gs] at h2
  have h3 := hf _ (List.mem_of_getElem? (i := 3) rfl)
  simp [sv_FQk, sv_FQ, sv_evs, sv_ev, sv_evT, sv_nth, sv_adq, sv_gs] at h3
  have h4 := hf _ (List.mem_of_getElem? (i := 4) rfl)
  simp [sv_FQk, sv_FQ, sv_evs, sv_ev, sv_evT, sv_nth, sv_adq, sv_gs] at h4
  have h5 := hf _ (List.mem_of_getElem? (i := 5) rfl)
  simp [sv_FQk, sv_FQ, sv_evs, sv_ev, sv_evT, sv_nth, sv_adq, sv_gs] at h5
  have h6 := hf _ (List.mem_of_getElem? (i := 6) rfl)
  simp [sv_FQk, sv_FQ, sv_evs, sv_ev, sv_evT, sv_nth, sv_adq, sv_gs] at h6
  have h7 := hf _ (List.mem_of_getElem? (i := 7) rfl)
  simp [sv_FQk, sv_FQ, sv_evs, sv_ev, sv_evT, sv_nth, sv_adq, sv_gs] at h7
  have h8 := hf _ (List.mem_of_getElem? (i := 8) rfl)
  simp [sv_FQk, sv_FQ, sv_evs, sv_ev, sv_evT, sv_nth, sv_adq, sv_gs] at h8
  have h9 := hf _ (List.mem_of_getElem? (i := 9) rfl)
  simp [sv_FQk, sv_FQ, sv_evs, sv_ev, sv_evT, sv_nth, sv_adq, sv_gs] at h9
  have h10 := hf _ (List.mem_of_getElem? (i := 10) rfl)
  simp [sv_FQk, sv_FQ, sv_evs, sv_ev, sv_evT, sv_nth, sv_adq, sv_gs] at h10
  have h11 := hf _ (List.mem_of_getElem? (i := 11) rfl)
  simp [sv_FQk, sv_FQ, sv_evs, sv_ev, sv_evT, sv_nth, sv_adq, sv_gs] at h11
  have h12 := hf _ (List.mem_of_getElem? (i := 12) rfl)
  simp [sv_FQk, sv_FQ, sv_evs, sv_ev, sv_evT, sv_nth, sv_adq, sv_gs] at h12
  have h13 := hf _ (List.mem_of_getElem? (i := 13) rfl)
  simp [sv_FQk, sv_FQ, sv_evs, sv_ev, sv_evT, sv_nth, sv_adq, sv_gs] at h13
  have h14 := hf _ (List.mem_of_getElem? (i := 14) rfl)
  simp [sv_FQk, sv_FQ, sv_evs, sv_ev, sv_evT, sv_nth, sv_adq, sv_gs] at h14
  have h15 := hf _ (List.mem_of_getElem? (i := 15) rfl)
  simp [sv_FQk, sv_FQ, sv_evs, sv_ev, sv_evT, sv_nth, sv_adq, sv_gs] at h15
  have h16 := hf _ (List.mem_of_getElem? (i := 16) rfl)
  simp [sv_FQk, sv_FQ, sv_evs, sv_ev, sv_evT, sv_nth, sv_adq, sv_gs] at h16
  have h17 := hf _ (List.mem_of_getElem? (i := 17) rfl)
  simp [sv_FQk, sv_FQ, sv_evs, sv_ev, sv_evT, sv_nth, sv_adq, sv_gs] at h17
  have h18 := hf _ (List.mem_of_getElem? (i := 18) rfl)
  simp [sv_FQk, sv_FQ, sv_evs, sv_ev, sv_evT, sv_nth, sv_adq, sv_gs] at h18
  have h19 := hf _ (List.mem_of_getElem? (i := 19) rfl)
  simp [sv_FQk, sv_FQ, sv_evs, sv_ev, sv_evT, sv_nth, sv_adq, sv_gs] at h19
  have h20 := hf _ (List.mem_of_getElem? (i := 20) rfl)
  simp [sv_FQk, sv_FQ, sv_evs, sv_ev, sv_evT, sv_nth, sv_adq, sv_gs] at h20
  have h21 := hf _ (List.mem_of_getElem? (i := 21) rfl)
  simp [sv_FQk, sv_FQ, sv_evs, sv_ev, sv_evT, sv_nth, sv_adq, sv_gs] at h21
  clear hf
  obtain ⟨⟨⟨-, Kot⟩, ⟨-, Kof⟩, ⟨-, Koz⟩, ⟨-, Ken⟩, ⟨-, Klv⟩, ⟨-, Klo⟩, ⟨-, Kcu⟩, ⟨-, Kns⟩⟩, h0⟩ := h0
  rw [sv_Qos_iff] at h0
  replace h1 := h1 bot (by omega) (by have := h2 bot; omega)
  replace h4 := h4 bof (by omega) (by have := h5 bof; omega)
  replace h10 := h10 blv (by omega) (by have := h11 blv; omega)
  replace h13 := h13 blo (by omega) (by have := h14 blo; omega)
  replace h16 := h16 bcu (by omega) (by have := h17 bcu; omega)
  replace h19 := h19 bns (by omega) (by have := h20 bns; omega)
  intro f hf
  have hf : f ∈ [(0, [], [(0, [(13, 1)])]), (0, [], [(149, [(13, -1)])]), (0, [], [(-1, [(13, -1), (15, 1), (17, 1), (19, 1), (21, 1)])])] := hf
  simp only [List.mem_cons, List.not_mem_nil, or_false] at hf
  rcases hf with rfl | rfl | rfl
  · simp [sv_FQk, sv_FQ, sv_evs, sv_ev, sv_evT, sv_nth, sv_adq, sv_gs]
    have q := h0 xo (by omega) (by omega)
    rw [h1, h4] at q
    omega
  · simp [sv_FQk, sv_FQ, sv_evs, sv_ev, sv_evT, sv_nth, sv_adq, sv_gs]
    have q := h0 xo (by omega) (by omega)
    rw [h1, h4] at q
    omega
  · simp [sv_FQk, sv_FQ, sv_evs, sv_ev, sv_evT, sv_nth, sv_adq, sv_gs]
    have q := h0 xo (by omega) (by omega)
    rw [h1, h4] at q
    omega
-- os_g
def q_l186 : SvM := ([(0, none), (0, none), (0, none), (0, none), (0, none), (0, none), (0, none), (0, none), (-1180591620717411303424, none), (-1180591620717411303424, none), (-1180591620717411303424, none), (-1180591620717411303424, none), (-1180591620717411303424, none), (-1180591620717411303424, none), (-1180591620717411303424, none)], [(54, [], [(0, [(0, 1)]), (0, [(1, 1)]), (0, [(2, 1)]), (0, [(3, 1)]), (0, [(4, 1)]), (0, [(5, 1)]), (0, [(6, 1)]), (0, [(7, 1)]), (0, [(8, 1)]), (0, [(9, 1)])]), (4, [109, 1], [(0, [(0, 1)]), (0, [(10, 1)]), (0, [(11, 1)])]), (2, [], [(0, [(0, 1)]), (0, [(12, 1)])]), (0, [], [(-1, [(10, -1), (12, 1)])]), (4, [110, 1], [(0, [(1, 1)]), (0, [(10, 1)]), (0, [(13, 1)])]), (2, [], [(0, [(1, 1)]), (0, [(14, 1)])]), (0, [], [(-1, [(10, -1), (14, 1)])]), (0, [], [(0, [(10, 1)])]), (0, [], [(-1, [(8, 1), (10, -1)])]), (0, [], [(0, [(11, 1)])])], [(0, [], [(0, [(13, 1)])]), (0, [], [(149, [(13, -1)])])])
theorem q_l186_ok : ∀ (g : Int → Int → Int) (ln : Int → Int) (kf : Int → Nat) (ρ : List Int), sv_BOk ρ q_l186.1 → (∀ f ∈ q_l186.2.1, sv_FQk q_Ks q_Q g ln kf ρ f) → ∀ f ∈ q_l186.2.2, sv_FQk q_Ks q_Q g ln kf ρ f := by
  intro g ln kf ρ hb hf
  obtain ⟨hl, hb⟩ := hb
  obtain ⟨xot, r0, rfl, l0⟩ := sv_lens hl
  obtain ⟨xof, r1, rfl, l1⟩ := sv_lens l0
  obtain ⟨xoz, r2, rfl, l2⟩ := sv_lens l1
  obtain ⟨xen, r3, rfl, l3⟩ := sv_lens l2
  obtain ⟨xlv, r4, rfl, l4⟩ := sv_lens l3
  obtain ⟨xlo, r5, rfl, l5⟩ := sv_lens l4
  obtain ⟨xcu, r6, rfl, l6⟩ := sv_lens l5
  obtain ⟨xns, r7, rfl, l7⟩ := sv_lens l6
  obtain ⟨xn, r8, rfl, l8⟩ := sv_lens l7
  obtain ⟨xtr, r9, rfl, l9⟩ := sv_lens l8
  obtain ⟨xo, r10, rfl, l10⟩ := sv_lens l9
  obtain ⟨xt, r11, rfl, l11⟩ := sv_lens l10
  obtain ⟨xN1, r12, rfl, l12⟩ := sv_lens l11
  obtain ⟨xf, r13, rfl, l13⟩ := sv_lens l12
  obtain ⟨xN2, r14, rfl, l14⟩ := sv_lens l13
  obtain rfl := sv_len0 l14
  clear l0 l1 l2 l3 l4 l5 l6 l7 l8 l9 l10 l11 l12 l13 l14 hl
  have bot : 0 ≤ xot := (hb 0 _ _ rfl rfl).1
  have bof : 0 ≤ xof := (hb 1 _ _ rfl rfl).1
  have boz : 0 ≤ xoz := (hb 2 _ _ rfl rfl).1
  have ben : 0 ≤ xen := (hb 3 _ _ rfl rfl).1
  have blv : 0 ≤ xlv := (hb 4 _ _ rfl rfl).1
  have blo : 0 ≤ xlo := (hb 5 _ _ rfl rfl).1
  have bcu : 0 ≤ xcu := (hb 6 _ _ rfl rfl).1
  have bns : 0 ≤ xns := (hb 7 _ _ rfl rfl).1
  clear hb
  have h0 := hf _ (List.mem_of_getElem? (i := 0) rfl)
  simp [sv_FQk, sv_FQ, sv_evs, sv_ev, sv_evT, sv_nth, sv_adq, sv_gs, q_Ks_38, q_Q_38] at h0
  have h1 := hf _ (List.mem_of_getElem? (i := 1) rfl)
  simp [sv_FQk, sv_FQ, sv_evs, sv_ev, sv_evT, sv_nth, sv_adq, sv_gs] at h1
  have h2 := hf _ (List.mem_of_getElem? (i := 2) rfl)
  simp [sv_FQk, sv_FQ, sv_evs, sv_ev, sv_evT, sv_nth, sv_adq, sv_gs] at h2
  have h3 := hf _ (List.mem_of_getElem? (i := 3) rfl)
  simp [sv_FQk, sv_FQ, sv_evs, sv_ev, sv_evT, sv_nth, sv_adq, sv_gs] at h3
  have h4 := hf _ (List.mem_of_getElem? (i := 4) rfl)
  simp [sv_FQk, sv_FQ, sv_evs, sv_ev, sv_evT, sv_nth, sv_adq, sv_gs] at h4
  have h5 := hf _ (List.mem_of_getElem? (i := 5) rfl)
  simp [sv_FQk, sv_FQ, sv_evs, sv_ev, sv_evT, sv_nth, sv_adq, sv_gs] at h5
  have h6 := hf _ (List.mem_of_getElem? (i := 6) rfl)
  simp [sv_FQk, sv_FQ, sv_evs, sv_ev, sv_evT, sv_nth, sv_adq, sv_gs] at h6
  have h7 := hf _ (List.mem_of_getElem? (i := 7) rfl)
  simp [sv_FQk, sv_FQ, sv_evs, sv_ev, sv_evT, sv_nth, sv_adq, sv_gs] at h7
  have h8 := hf _ (List.mem_of_getElem? (i := 8) rfl)
  simp [sv_FQk, sv_FQ, sv_evs, sv_ev, sv_evT, sv_nth, sv_adq, sv_gs] at h8
  have h9 := hf _ (List.mem_of_getElem? (i := 9) rfl)
  simp [sv_FQk, sv_FQ, sv_evs, sv_ev, sv_evT, sv_nth, sv_adq, sv_gs] at h9
  clear hf
  obtain ⟨⟨⟨-, Kot⟩, ⟨-, Kof⟩, ⟨-, Koz⟩, ⟨-, Ken⟩, ⟨-, Klv⟩, ⟨-, Klo⟩, ⟨-, Kcu⟩, ⟨-, Kns⟩⟩, h0⟩ := h0
  rw [sv_Qos_iff] at h0
  replace h1 := h1 bot (by omega) (by have := h2 bot; omega)
  replace h4 := h4 bof (by omega) (by have := h5 bof; omega)
  intro f hf
  have hf : f ∈ [(0, [], [(0, [(13, 1)])]), (0, [], [(149, [(13, -1)])])] := hf
  simp only [List.mem_cons, List.not_mem_nil, or_false] at hf
  rcases hf with rfl | rfl
  · simp [sv_FQk, sv_FQ, sv_evs, sv_ev, sv_evT, sv_nth, sv_adq, sv_gs]
    have q := h0 xo (by omega) (by omega)
    rw [h1, h4] at q
    omega
  · simp [sv_FQk, sv_FQ, sv_evs, sv_ev, sv_evT, sv_nth, sv_adq, sv_gs]
    have q := h0 xo (by omega) (by omega)
    rw [h1, h4] at q
    omega
-- os_e
def q_l187 : SvM := ([(0, none), (0, none), (0, none), (0, none), (0, none), (0, none), (0, none), (0, none), (-1180591620717411303424, none), (-1180591620717411303424, none), (-1180591620717411303424, none), (-1180591620717411303424, none), (-1180591620717411303424, none), (-1180591620717411303424, none), (-1180591620717411303424, none), (-1180591620717411303424, none), (-1180591620717411303424, none), (-1180591620717411303424, none), (-1180591620717411303424, none)], [(54, [], [(0, [(0, 1)]), (0, [(1, 1)]), (0, [(2, 1)]), (0, [(3, 1)]), (0, [(4, 1)]), (0, [(5, 1)]), (0, [(6, 1)]), (0, [(7, 1)]), (0, [(8, 1)]), (0, [(9, 1)])]), (4, [109, 1], [(0, [(0, 1)]), (0, [(10, 1)]), (0, [(11, 1)])]), (2, [], [(0, [(0, 1)]), (0, [(12, 1)])]), (0, [], [(-1, [(10, -1), (12, 1)])]), (4, [110, 1], [(0, [(1, 1)]), (0, [(10, 1)]), (0, [(13, 1)])]), (2, [], [(0, [(1, 1)]), (0, [(14, 1)])]), (0, [], [(-1, [(10, -1), (14, 1)])]), (4, [111, 1], [(0, [(2, 1)]), (0, [(10, 1)]), (0, [(15, 1)])]), (2, [], [(0, [(2, 1)]), (0, [(16, 1)])]), (0, [], [(-1, [(10, -1), (16, 1)])]), (0, [], [(0, [(10, 1)])]), (0, [], [(-1, [(8, 1), (10, -1)])]), (0, [], [(0, [(11, 1)])]), (0, [], [(0, [(13, 1)])]), (4, [84, 1], [(0, [(3, 1)]), (0, [(11, 150), (13, 1)]), (0, [(17, 1)])]), (2, [], [(0, [(3, 1)]), (0, [(18, 1)])]), (0, [], [(-1, [(11, -150), (13, -1), (18, 1)])])], [(0, [], [(0, [(15, -1), (17, 1)])])])
theorem q_l187_ok : ∀ (g : Int → Int → Int) (ln : Int → Int) (kf : Int → Nat) (ρ : List Int), sv_BOk ρ q_l187.1 → (∀ f ∈ q_l187.2.1, sv_FQk q_Ks q_Q g ln kf ρ f) → ∀ f ∈ q_l187.2.2, sv_FQk q_Ks q_Q g ln kf ρ f := by
  intro g ln kf ρ hb hf
  obtain ⟨hl, hb⟩ := hb
  obtain ⟨xot, r0, rfl, l0⟩ := sv_lens hl
  obtain ⟨xof, r1, rfl, l1⟩ := sv_lens l0
  obtain ⟨xoz, r2, rfl, l2⟩ := sv_lens l1
  obtain ⟨xen, r3, rfl, l3⟩ := sv_lens l2
  obtain ⟨xlv, r4, rfl, l4⟩ := sv_lens l3
  obtain ⟨xlo, r5, rfl, l5⟩ := sv_lens l4
  obtain ⟨xcu, r6, rfl, l6⟩ := sv_lens l5
  obtain ⟨xns, r7, rfl, l7⟩ := sv_lens l6
  obtain ⟨xn, r8, rfl, l8⟩ := sv_lens l7
  obtain ⟨xtr, r9, rfl, l9⟩ := sv_lens l8
  obtain ⟨xo, r10, rfl, l10⟩ := sv_lens l9
  obtain ⟨xt, r11, rfl, l11⟩ := sv_lens l10
  obtain ⟨xN1, r12, rfl, l12⟩ := sv_lens l11
  obtain ⟨xf, r13, rfl, l13⟩ := sv_lens l12
  obtain ⟨xN2, r14, rfl, l14⟩ := sv_lens l13
  obtain ⟨xs, r15, rfl, l15⟩ := sv_lens l14
  obtain ⟨xN3, r16, rfl, l16⟩ := sv_lens l15
  obtain ⟨xe, r17, rfl, l17⟩ := sv_lens l16
  obtain ⟨xN4, r18, rfl, l18⟩ := sv_lens l17
  obtain rfl := sv_len0 l18
  clear l0 l1 l2 l3 l4 l5 l6 l7 l8 l9 l10 l11 l12 l13 l14 l15 l16 l17 l18 hl
  have bot : 0 ≤ xot := (hb 0 _ _ rfl rfl).1
  have bof : 0 ≤ xof := (hb 1 _ _ rfl rfl).1
  have boz : 0 ≤ xoz := (hb 2 _ _ rfl rfl).1
  have ben : 0 ≤ xen := (hb 3 _ _ rfl rfl).1
  have blv : 0 ≤ xlv := (hb 4 _ _ rfl rfl).1
  have blo : 0 ≤ xlo := (hb 5 _ _ rfl rfl).1
  have bcu : 0 ≤ xcu := (hb 6 _ _ rfl rfl).1
  have bns : 0 ≤ xns := (hb 7 _ _ rfl rfl).1
  clear hb
  have h0 := hf _ (List.mem_of_getElem? (i := 0) rfl)
  simp [sv_FQk, sv_FQ, sv_evs, sv_ev, sv_evT, sv_nth, sv_adq, sv_gs, q_Ks_38, q_Q_38] at h0
  have h1 := hf _ (List.mem_of_getElem? (i := 1) rfl)
  simp [sv_FQk, sv_FQ, sv_evs, sv_ev, sv_evT, sv_nth, sv_adq, sv_gs] at h1
  have h2 := hf _ (List.mem_of_getElem? (i := 2) rfl)
  simp [sv_FQk, sv_FQ, sv_evs, sv_ev, sv_evT, sv_nth, sv_adq, sv_gs] at h2
  have h3 := hf _ (List.mem_of_getElem? (i := 3) rfl)
  simp [sv_FQk, sv_FQ, sv_evs, sv_ev, sv_evT, sv_nth, sv_adq, sv_gs] at h3
  have h4 := hf _ (List.mem_of_getElem? (i := 4) rfl)
  simp [sv_FQk, sv_FQ, sv_evs, sv_ev, sv_evT, sv_nth, sv_adq, sv_gs] at h4
  have h5 := hf _ (List.mem_of_getElem? (i := 5) rfl)
  simp [sv_FQk, sv_FQ, sv_evs, sv_ev, sv_evT, sv_nth, sv_adq, sv_gs] at h5
  have h6 := hf _ (List.mem_of_getElem? (i := 6) rfl)
  simp [sv_FQk, sv_FQ, sv_evs, sv_ev, sv_evT, sv_nth, sv_adq, sv_gs] at h6
  have h7 := hf _ (List.mem_of_getElem? (i := 7) rfl)
  simp [sv_FQk, sv_FQ, sv_evs, sv_ev, sv_evT, sv_nth, sv_adq, sv_gs] at h7
  have h8 := hf _ (List.mem_of_getElem? (i := 8) rfl)
  simp [sv_FQk, sv_FQ, sv_evs, sv_ev, sv_evT, sv_nth, sv_adq, sv_gs] at h8
  have h9 := hf _ (List.mem_of_getElem? (i := 9) rfl)
  simp [sv_FQk, sv_FQ, sv_evs, sv_ev, sv_evT, sv_nth, sv_adq, sv_gs] at h9
  have h10 := hf _ (List.mem_of_getElem? (i := 10) rfl)
  simp [sv_FQk, sv_FQ, sv_evs, sv_ev, sv_evT, sv_nth, sv_adq, sv_gs] at h10
  have h11 := hf _ (List.mem_of_getElem? (i := 11) rfl)
  simp [sv_FQk, sv_FQ, sv_evs, sv_ev, sv_evT, sv_nth, sv_adq, sv_gs] at h11
  have h12 := hf _ (List.mem_of_getElem? (i := 12) rfl)
  simp [sv_FQk, sv_FQ, sv_evs, sv_ev, sv_evT, sv_nth, sv_adq, sv_gs] at h12
  have h13 := hf _ (List.mem_of_getElem? (i := 13) rfl)
  simp [sv_FQk, sv_FQ, sv_evs, sv_ev, sv_evT, sv_nth, sv_adq, sv_gs] at h13
  have h14 := hf _ (List.mem_of_getElem? (i := 14) rfl)
  simp [sv_FQk, sv_FQ, sv_evs, sv_ev, sv_evT, sv_nth, sv_adq, sv_gs] at h14
  have h15 := hf _ (List.mem_of_getElem? (i := 15) rfl)
  simp [sv_FQk, sv_FQ, sv_evs, sv_ev, sv_evT, sv_nth, sv_adq, sv_gs] at h15
  have h16 := hf _ (List.mem_of_getElem? (i := 16) rfl)
  simp [sv_FQk, sv_FQ, sv_evs, sv_ev, sv_evT, sv_nth, sv_adq, sv_gs] at h16
  clear hf
  obtain ⟨⟨⟨-, Kot⟩, ⟨-, Kof⟩, ⟨-, Koz⟩, ⟨-, Ken⟩, ⟨-, Klv⟩, ⟨-, Klo⟩, ⟨-, Kcu⟩, ⟨-, Kns⟩⟩, h0⟩ := h0
  rw [sv_Qos_iff] at h0
  replace h1 := h1 bot (by omega) (by have := h2 bot; omega)
  replace h4 := h4 bof (by omega) (by have := h5 bof; omega)
  replace h7 := h7 boz (by omega) (by have := h8 boz; omega)
  replace h14 := h14 ben (by omega) (by have := h15 ben; omega)
  intro f hf
  have hf : f ∈ [(0, [], [(0, [(15, -1), (17, 1)])])] := hf
  simp only [List.mem_cons, List.not_mem_nil, or_false] at hf
  subst hf
  · simp [sv_FQk, sv_FQ, sv_evs, sv_ev, sv_evT, sv_nth, sv_adq, sv_gs]
    have q := h0 xo (by omega) (by omega)
    rw [h1, h4, h7] at q
    have u : g xen (150 * xt + xf) = xe := sv_fat (by omega) h14
    rw [u] at q
    omega
-- pn_k1
def q_l188 : SvM := ([(0, none), (0, none), (-1180591620717411303424, none), (-1180591620717411303424, none), (-1180591620717411303424, none), (-1180591620717411303424, none), (-1180591620717411303424, none), (-1180591620717411303424, none), (-1180591620717411303424, none)], [(1, [114], [(0, [(0, 1)])]), (1, [115], [(0, [(1, 1)])]), (0, [], [(21, [(6, -1)])])], [(56, [], [(0, [(0, 1)]), (0, [(1, 1)]), (0, [(2, 1)]), (0, [(3, 1)]), (0, [(4, 1)]), (0, [(5, 1)]), (0, [(6, 1)]), (0, [(7, 1)]), (0, [(8, 1)])])])
theorem q_l188_ok : ∀ (g : Int → Int → Int) (ln : Int → Int) (kf : Int → Nat) (ρ : List Int), sv_BOk ρ q_l188.1 → (∀ f ∈ q_l188.2.1, sv_FQk q_Ks q_Q g ln kf ρ f) → ∀ f ∈ q_l188.2.2, sv_FQk q_Ks q_Q g ln kf ρ f := by
  intro g ln kf ρ hb hf
  obtain ⟨hl, hb⟩ := hb
  obtain ⟨xpf, r0, rfl, l0⟩ := sv_lens hl
  obtain ⟨xpe, r1, rfl, l1⟩ := sv_lens l0
  obtain ⟨xa, r2, rfl, l2⟩ := sv_lens l1
  obtain ⟨xz, r3, rfl, l3⟩ := sv_lens l2
  obtain ⟨xe, r4, rfl, l4⟩ := sv_lens l3
  obtain ⟨xp, r5, rfl, l5⟩ := sv_lens l4
  obtain ⟨xk, r6, rfl, l6⟩ := sv_lens l5
  obtain ⟨xf, r7, rfl, l7⟩ := sv_lens l6
  obtain ⟨xt, r8, rfl, l8⟩ := sv_lens l7
  obtain rfl := sv_len0 l8
  clear l0 l1 l2 l3 l4 l5 l6 l7 l8 hl
  have bpf : 0 ≤ xpf := (hb 0 _ _ rfl rfl).1
  have bpe : 0 ≤ xpe := (hb 1 _ _ rfl rfl).1
  clear hb
  have h0 := hf _ (List.mem_of_getElem? (i := 0) rfl)
  simp [sv_FQk, sv_FQ, sv_evs, sv_ev, sv_evT, sv_nth, sv_adq, sv_gs] at h0
  have h1 := hf _ (List.mem_of_getElem? (i := 1) rfl)
  simp [sv_FQk, sv_FQ, sv_evs, sv_ev, sv_evT, sv_nth, sv_adq, sv_gs] at h1
  have h2 := hf _ (List.mem_of_getElem? (i := 2) rfl)
  simp [sv_FQk, sv_FQ, sv_evs, sv_ev, sv_evT, sv_nth, sv_adq, sv_gs] at h2
  clear hf
  have Kpf : kf xpf = 114 := by omega
  have Kpe : kf xpe = 115 := by omega
  intro f hf
  have hf : f ∈ [(56, [], [(0, [(0, 1)]), (0, [(1, 1)]), (0, [(2, 1)]), (0, [(3, 1)]), (0, [(4, 1)]), (0, [(5, 1)]), (0, [(6, 1)]), (0, [(7, 1)]), (0, [(8, 1)])])] := hf
  simp only [List.mem_cons, List.not_mem_nil, or_false] at hf
  subst hf
  · simp [sv_FQk, sv_FQ, sv_evs, sv_ev, sv_evT, sv_nth, sv_adq, sv_gs, q_Ks_40, q_Q_40]
    refine ⟨⟨⟨bpf, Kpf⟩, ⟨bpe, Kpe⟩⟩, ?_⟩
    rw [sv_Qpn_iff]
    intro a1 a2
    omega
-- pn_k2
def q_l189 : SvM := ([(0, none), (0, none), (-1180591620717411303424, none), (-1180591620717411303424, none), (-1180591620717411303424, none), (-1180591620717411303424, none), (-1180591620717411303424, none), (-1180591620717411303424, none), (-1180591620717411303424, none)], [(1, [114], [(0, [(0, 1)])]), (1, [115], [(0, [(1, 1)])]), (0, [], [(-23, [(6, 1)])])], [(56, [], [(0, [(0, 1)]), (0, [(1, 1)]), (0, [(2, 1)]), (0, [(3, 1)]), (0, [(4, 1)]), (0, [(5, 1)]), (0, [(6, 1)]), (0, [(7, 1)]), (0, [(8, 1)])])])
theorem q_l189_ok : ∀ (g : Int → Int → Int) (ln : Int → Int) (kf : Int → Nat) (ρ : List Int), sv_BOk ρ q_l189.1 → (∀ f ∈ q_l189.2.1, sv_FQk q_Ks q_Q g ln kf ρ f) → ∀ f ∈ q_l189.2.2, sv_FQk q_Ks q_Q g ln kf ρ f := by
  intro g ln kf ρ hb hf
  obtain ⟨hl, hb⟩ := hb
  obtain ⟨xpf, r0, rfl, l0⟩ := sv_lens hl
  obtain ⟨xpe, r1, rfl, l1⟩ := sv_lens l0
  obtain ⟨xa, r2, rfl, l2⟩ := sv_lens l1
  obtain ⟨xz, r3, rfl, l3⟩ := sv_lens l2
  obtain ⟨xe, r4, rfl, l4⟩ := sv_lens l3
  obtain ⟨xp, r5, rfl, l5⟩ := sv_lens l4
  obtain ⟨xk, r6, rfl, l6⟩ := sv_lens l5
  obtain ⟨xf, r7, rfl, l7⟩ := sv_lens l6
  obtain ⟨xt, r8, rfl, l8⟩ := sv_lens l7
  obtain rfl := sv_len0 l8
  clear l0 l1 l2 l3 l4 l5 l6 l7 l8 hl
  have bpf : 0 ≤ xpf := (hb 0 _ _ rfl rfl).1
  have bpe : 0 ≤ xpe := (hb 1 _ _ rfl rfl).1
  clear hb
  have h0 := hf _ (List.mem_of_getElem? (i := 0) rfl)
  simp [sv_FQk, sv_FQ, sv_evs, sv_ev, sv_evT, sv_nth, sv_adq, sv_gs] at h0
  have h1 := hf _ (List.mem_of_getElem? (i := 1) rfl)
  simp [sv_FQk, sv_FQ, sv_evs, sv_ev, sv_evT, sv_nth, sv_adq, sv_gs] at h1
  have h2 := hf _ (List.mem_of_getElem? (i := 2) rfl)
  simp [sv_FQk, sv_FQ, sv_evs, sv_ev, sv_evT, sv_nth, sv_adq, sv_gs] at h2
  clear hf
  have Kpf : kf xpf = 114 := by omega
  have Kpe : kf xpe = 115 := by omega
  intro f hf
  have hf : f ∈ [(56, [], [(0, [(0, 1)]), (0, [(1, 1)]), (0, [(2, 1)]), (0, [(3, 1)]), (0, [(4, 1)]), (0, [(5, 1)]), (0, [(6, 1)]), (0, [(7, 1)]), (0, [(8, 1)])])] := hf
  simp only [List.mem_cons, List.not_mem_nil, or_false] at hf
  subst hf
  · simp [sv_FQk, sv_FQ, sv_evs, sv_ev, sv_evT, sv_nth, sv_adq, sv_gs, q_Ks_40, q_Q_40]
    refine ⟨⟨⟨bpf, Kpf⟩, ⟨bpe, Kpe⟩⟩, ?_⟩
    rw [sv_Qpn_iff]
    intro a1 a2
    omega
-- pn_f
def q_l190 : SvM := ([(0, none), (0, none), (-1180591620717411303424, none), (-1180591620717411303424, none), (-1180591620717411303424, none), (-1180591620717411303424, none), (-1180591620717411303424, none), (-1180591620717411303424, none), (-1180591620717411303424, none)], [(1, [114], [(0, [(0, 1)])]), (1, [115], [(0, [(1, 1)])]), (0, [], [(0, [(2, 1), (4, -1)])])], [(56, [], [(0, [(0, 1)]), (0, [(1, 1)]), (0, [(2, 1)]), (0, [(3, 1)]), (0, [(4, 1)]), (0, [(5, 1)]), (0, [(6, 1)]), (0, [(7, 1)]), (0, [(8, 1)])])])
theorem q_l190_ok : ∀ (g : Int → Int → Int) (ln : Int → Int) (kf : Int → Nat) (ρ : List Int), sv_BOk ρ q_l190.1 → (∀ f ∈ q_l190.2.1, sv_FQk q_Ks q_Q g ln kf ρ f) → ∀ f ∈ q_l190.2.2, sv_FQk q_Ks q_Q g ln kf ρ f := by
  intro g ln kf ρ hb hf
  obtain ⟨hl, hb⟩ := hb
  obtain ⟨xpf, r0, rfl, l0⟩ := sv_lens hl
  obtain ⟨xpe, r1, rfl, l1⟩ := sv_lens l0
  obtain ⟨xa, r2, rfl, l2⟩ := sv_lens l1
  obtain ⟨xz, r3, rfl, l3⟩ := sv_lens l2
  obtain ⟨xe, r4, rfl, l4⟩ := sv_lens l3
  obtain ⟨xp, r5, rfl, l5⟩ := sv_lens l4
  obtain ⟨xk, r6, rfl, l6⟩ := sv_lens l5
  obtain ⟨xf, r7, rfl, l7⟩ := sv_lens l6
  obtain ⟨xt, r8, rfl, l8⟩ := sv_lens l7
  obtain rfl := sv_len0 l8
  clear l0 l1 l2 l3 l4 l5 l6 l7 l8 hl
  have bpf : 0 ≤ xpf := (hb 0 _ _ rfl rfl).1
  have bpe : 0 ≤ xpe := (hb 1 _ _ rfl rfl).1
  clear hb
  have h0 := hf _ (List.mem_of_getElem? (i := 0) rfl)
  simp [sv_FQk, sv_FQ, sv_evs, sv_ev, sv_evT, sv_nth, sv_adq, sv_gs] at h0
  have h1 := hf _ (List.mem_of_getElem? (i := 1) rfl)
  simp [sv_FQk, sv_FQ, sv_evs, sv_ev, sv_evT, sv_nth, sv_adq, sv_gs] at h1
  have h2 := hf _ (List.mem_of_getElem? (i := 2) rfl)
  simp [sv_FQk, sv_FQ, sv_evs, sv_ev, sv_evT, sv_nth, sv_adq, sv_gs] at h2
  clear hf
  have Kpf : kf xpf = 114 := by omega
  have Kpe : kf xpe = 115 := by omega
  intro f hf
  have hf : f ∈ [(56, [], [(0, [(0, 1)]), (0, [(1, 1)]), (0, [(2, 1)]), (0, [(3, 1)]), (0, [(4, 1)]), (0, [(5, 1)]), (0, [(6, 1)]), (0, [(7, 1)]), (0, [(8, 1)])])] := hf
  simp only [List.mem_cons, List.not_mem_nil, or_false] at hf
  subst hf
  · simp [sv_FQk, sv_FQ, sv_evs, sv_ev, sv_evT, sv_nth, sv_adq, sv_gs, q_Ks_40, q_Q_40]
    refine ⟨⟨⟨bpf, Kpf⟩, ⟨bpe, Kpe⟩⟩, ?_⟩
    rw [sv_Qpn_iff]
    intro a1 a2
    omega
-- pn_1
def q_l191 : SvM := ([(0, none), (0, none), (-1180591620717411303424, none), (-1180591620717411303424, none), (-1180591620717411303424, none), (-1180591620717411303424, none), (-1180591620717411303424, none), (-1180591620717411303424, none), (-1180591620717411303424, none), (-1180591620717411303424, none), (-1180591620717411303424, none), (-1180591620717411303424, none), (-1180591620717411303424, none)], [(4, [114, 1], [(0, [(0, 1)]), (-1, [(2, 1)]), (0, [(9, 1)])]), (2, [], [(0, [(0, 1)]), (0, [(11, 1)])]), (4, [115, 1], [(0, [(1, 1)]), (-1, [(2, 1)]), (0, [(10, 1)])]), (2, [], [(0, [(1, 1)]), (0, [(12, 1)])]), (0, [], [(-1, [(2, 1)])]), (0, [], [(0, [(2, -1), (11, 1)])]), (0, [], [(0, [(2, -1), (12, 1)])]), (0, [], [(0, [(5, 1)])]), (0, [], [(119, [(2, 1), (4, -1)])]), (0, [], [(0, [(9, 1)])]), (0, [], [(0, [(3, 1), (10, -1)])]), (0, [], [(32, [(9, 1), (10, -1)])]), (0, [], [(0, [(7, 1)])]), (0, [], [(0, [(7, -1), (8, 1)])]), (0, [], [(0, [(3, 1), (8, -1)])]), (1, [114], [(0, [(0, 1)])]), (1, [115], [(0, [(1, 1)])])], [(56, [], [(0, [(0, 1)]), (0, [(1, 1)]), (0, [(2, 1)]), (0, [(3, 1)]), (0, [(4, 1)]), (0, [(5, 1)]), (0, [(6, 1)]), (0, [(7, 1)]), (0, [(8, 1)])])])
theorem q_l191_ok : ∀ (g : Int → Int → Int) (ln : Int → Int) (kf : Int → Nat) (ρ : List Int), sv_BOk ρ q_l191.1 → (∀ f ∈ q_l191.2.1, sv_FQk q_Ks q_Q g ln kf ρ f) → ∀ f ∈ q_l191.2.2, sv_FQk q_Ks q_Q g ln kf ρ f := by
  intro g ln kf ρ hb hf
  obtain ⟨hl, hb⟩ := hb
  obtain ⟨xpf, r0, rfl, l0⟩ := sv_lens hl
  obtain ⟨xpe, r1, rfl, l1⟩ := sv_lens l0
  obtain ⟨xa, r2, rfl, l2⟩ := sv_lens l1
  obtain ⟨xz, r3, rfl, l3⟩ := sv_lens l2
  obtain ⟨xe, r4, rfl, l4⟩ := sv_lens l3
  obtain ⟨xp, r5, rfl, l5⟩ := sv_lens l4
  obtain ⟨xk, r6, rfl, l6⟩ := sv_lens l5
  obtain ⟨xf, r7, rfl, l7⟩ := sv_lens l6
  obtain ⟨xt, r8, rfl, l8⟩ := sv_lens l7
  obtain ⟨xx, r9, rfl, l9⟩ := sv_lens l8
  obtain ⟨xy, r10, rfl, l10⟩ := sv_lens l9
  obtain ⟨xN, r11, rfl, l11⟩ := sv_lens l10
  obtain ⟨xM, r12, rfl, l12⟩ := sv_lens l11
  obtain rfl := sv_len0 l12
  clear l0 l1 l2 l3 l4 l5 l6 l7 l8 l9 l10 l11 l12 hl
  have bpf : 0 ≤ xpf := (hb 0 _ _ rfl rfl).1
  have bpe : 0 ≤ xpe := (hb 1 _ _ rfl rfl).1
  clear hb
  have h0 := hf _ (List.mem_of_getElem? (i := 0) rfl)
  simp [sv_FQk, sv_FQ, sv_evs, sv_ev, sv_evT, sv_nth, sv_adq, sv_gs] at h0
  have h1 := hf _ (List.mem_of_getElem? (i := 1) rfl)
  simp [sv_FQk, sv_FQ, sv_evs, sv_ev, sv_evT, sv_nth, sv_adq, sv_gs] at h1
  have h2 := hf _ (List.mem_of_getElem? (i := 2) rfl)
  simp [sv_FQk, sv_FQ, sv_evs, sv_ev, sv_evT, sv_nth, sv_adq, sv_gs] at h2
  have h3 := hf _ (List.mem_of_getElem? (i := 3) rfl)
  simp [sv_FQk, sv_FQ, sv_evs, sv_ev, sv_evT, sv_nth, sv_adq, sv_gs] at h3
  have h4 := hf _ (List.mem_of_getElem? (i := 4) rfl)
  simp [sv_FQk, sv_FQ, sv_evs, sv_ev, sv_evT, sv_nth, sv_adq, sv_gs] at h4
  have h5 := hf _ (List.mem_of_getElem? (i := 5) rfl)
  simp [sv_FQk, sv_FQ, sv_evs, sv_ev, sv_evT, sv_nth, sv_adq, sv_gs] at h5
  have h6 := hf _ (List.mem_of_getElem? (i := 6) rfl)
  simp [sv_FQk, sv_FQ, sv_evs, sv_ev, sv_evT, sv_nth, sv_adq, sv_gs] at h6
  have h7 := hf _ (List.mem_of_getElem? (i := 7) rfl)
  simp [sv_FQk, sv_FQ, sv_evs, sv_ev, sv_evT, sv_nth, sv_adq, sv_gs] at h7
  have h8 := hf _ (List.mem_of_getElem? (i := 8) rfl)
  simp [sv_FQk, sv_FQ, sv_evs, sv_ev, sv_evT, sv_nth, sv_adq, sv_gs] at h8
  have h9 := hf _ (List.mem_of_getElem? (i := 9) rfl)
  simp [sv_FQk, sv_FQ, sv_evs, sv_ev, sv_evT, sv_nth, sv_adq, sv_gs] at h9
  have h10 := hf _ (List.mem_of_getElem? (i := 10) rfl)
  simp [sv_FQk, sv_FQ, sv_evs, sv_ev, sv_evT, sv_nth, sv_adq, sv_gs] at h10
  have h11 := hf _ (List.mem_of_getElem? (i := 11) rfl)
  simp [sv_FQk, sv_FQ, sv_evs, sv_ev, sv_evT, sv_nth, sv_adq, sv_gs] at h11
  have h12 := hf _ (List.mem_of_getElem? (i := 12) rfl)
  simp [sv_FQk, sv_FQ, sv_evs, sv_ev, sv_evT, sv_nth, sv_adq, sv_gs] at h12
  have h13 := hf _ (List.mem_of_getElem? (i := 13) rfl)
  simp [sv_FQk, sv_FQ, sv_evs, sv_ev, sv_evT, sv_nth, sv_adq, sv_gs] at h13
  have h14 := hf _ (List.mem_of_getElem? (i := 14) rfl)
  simp [sv_FQk, sv_FQ, sv_evs, sv_ev, sv_evT, sv_nth, sv_adq, sv_gs] at h14
  have h15 := hf _ (List.mem_of_getElem? (i := 15) rfl)
  simp [sv_FQk, sv_FQ, sv_evs, sv_ev, sv_evT, sv_nth, sv_adq, sv_gs] at h15
  have h16 := hf _ (List.mem_of_getElem? (i := 16) rfl)
  simp [sv_FQk, sv_FQ, sv_evs, sv_ev, sv_evT, sv_nth, sv_adq, sv_gs] at h16
  clear hf
  replace h0 := h0 bpf (by omega) (by have := h1 bpf; omega)
  replace h2 := h2 bpe (by omega) (by have := h3 bpe; omega)
  have Kpf : kf xpf = 114 := by omega
  have Kpe : kf xpe = 115 := by omega
  intro f hf
  have hf : f ∈ [(56, [], [(0, [(0, 1)]), (0, [(1, 1)]), (0, [(2, 1)]), (0, [(3, 1)]), (0, [(4, 1)]), (0, [(5, 1)]), (0, [(6, 1)]), (0, [(7, 1)]), (0, [(8, 1)])])] := hf
  simp only [List.mem_cons, List.not_mem_nil, or_false] at hf
  subst hf
  · simp [sv_FQk, sv_FQ, sv_evs, sv_ev, sv_evT, sv_nth, sv_adq, sv_gs, q_Ks_40, q_Q_40]
    refine ⟨⟨⟨bpf, Kpf⟩, ⟨bpe, Kpe⟩⟩, ?_⟩
    rw [sv_Qpn_iff]
    intro _ _
    have u : g xpf (xa - 1) = xx := sv_fat (by omega) h0
    have v : g xpe (xa - 1) = xy := sv_fat (by omega) h2
    rw [u, v]
    omega
-- pt_0
def q_l192 : SvM := ([(0, none), (0, none), (0, none), (0, none), (0, none), (0, none), (-1180591620717411303424, none)], [(1, [113], [(0, [(0, 1)])]), (1, [114], [(0, [(1, 1)])]), (1, [115], [(0, [(2, 1)])]), (1, [117], [(0, [(3, 1)])]), (1, [111], [(0, [(4, 1)])]), (1, [112], [(0, [(5, 1)])]), (0, [], [(0, [(6, -1)])])], [(55, [], [(0, [(0, 1)]), (0, [(1, 1)]), (0, [(2, 1)]), (0, [(3, 1)]), (0, [(4, 1)]), (0, [(5, 1)]), (0, [(6, 1)])])])
theorem q_l192_ok : ∀ (g : Int → Int → Int) (ln : Int → Int) (kf : Int → Nat) (ρ : List Int), sv_BOk ρ q_l192.1 → (∀ f ∈ q_l192.2.1, sv_FQk q_Ks q_Q g ln kf ρ f) → ∀ f ∈ q_l192.2.2, sv_FQk q_Ks q_Q g ln kf ρ f := by
  intro g ln kf ρ hb hf
  obtain ⟨hl, hb⟩ := hb
  obtain ⟨xpk, r0, rfl, l0⟩ := sv_lens hl
  obtain ⟨xpf, r1, rfl, l1⟩ := sv_lens l0
  obtain ⟨xpe, r2, rfl, l2⟩ := sv_lens l1
  obtain ⟨xpp, r3, rfl, l3⟩ := sv_lens l2
  obtain ⟨xoz, r4, rfl, l4⟩ := sv_lens l3
  obtain ⟨xpo, r5, rfl, l5⟩ := sv_lens l4
  obtain ⟨xn, r6, rfl, l6⟩ := sv_lens l5
  obtain rfl := sv_len0 l6
  clear l0 l1 l2 l3 l4 l5 l6 hl
  have bpk : 0 ≤ xpk := (hb 0 _ _ rfl rfl).1
  have bpf : 0 ≤ xpf := (hb 1 _ _ rfl rfl).1
  have bpe : 0 ≤ xpe := (hb 2 _ _ rfl rfl).1
  have bpp : 0 ≤ xpp := (hb 3 _ _ rfl rfl).1
  have boz : 0 ≤ xoz := (hb 4 _ _ rfl rfl).1
  have bpo : 0 ≤ xpo := (hb 5 _ _ rfl rfl).1
  clear hb
  have h0 := hf _ (List.mem_of_getElem? (i := 0) rfl)
  simp [sv_FQk, sv_FQ, sv_evs, sv_ev, sv_evT, sv_nth, sv_adq, sv_gs] at h0
  have h1 := hf _ (List.mem_of_getElem? (i := 1) rfl)
  simp [sv_FQk, sv_FQ, sv_evs, sv_ev, sv_evT, sv_nth, sv_adq, sv_gs] at h1
  have h2 := hf _ (List.mem_of_getElem? (i := 2) rfl)
  simp [sv_FQk, sv_FQ, sv_evs, sv_ev, sv_evT, sv_nth, sv_adq, sv_gs] at h2
  have h3 := hf _ (List.mem_of_getElem? (i := 3) rfl)
  simp [sv_FQk, sv_FQ, sv_evs, sv_ev, sv_evT, sv_nth, sv_adq, sv_gs] at h3
  have h4 := hf _ (List.mem_of_getElem? (i := 4) rfl)
  simp [sv_FQk, sv_FQ, sv_evs, sv_ev, sv_evT, sv_nth, sv_adq, sv_gs] at h4
  have h5 := hf _ (List.mem_of_getElem? (i := 5) rfl)
  simp [sv_FQk, sv_FQ, sv_evs, sv_ev, sv_evT, sv_nth, sv_adq, sv_gs] at h5
  have h6 := hf _ (List.mem_of_getElem? (i := 6) rfl)
  simp [sv_FQk, sv_FQ, sv_evs, sv_ev, sv_evT, sv_nth, sv_adq, sv_gs] at h6
  clear hf
  have Kpk : kf xpk = 113 := by omega
  have Kpf : kf xpf = 114 := by omega
  have Kpe : kf xpe = 115 := by omega
  have Kpp : kf xpp = 117 := by omega
  have Koz : kf xoz = 111 := by omega
  have Kpo : kf xpo = 112 := by omega
  intro f hf
  have hf : f ∈ [(55, [], [(0, [(0, 1)]), (0, [(1, 1)]), (0, [(2, 1)]), (0, [(3, 1)]), (0, [(4, 1)]), (0, [(5, 1)]), (0, [(6, 1)])])] := hf
  simp only [List.mem_cons, List.not_mem_nil, or_false] at hf
  subst hf
  · simp [sv_FQk, sv_FQ, sv_evs, sv_ev, sv_evT, sv_nth, sv_adq, sv_gs, q_Ks_39, q_Q_39]
    refine ⟨⟨⟨bpk, Kpk⟩, ⟨bpf, Kpf⟩, ⟨bpe, Kpe⟩, ⟨bpp, Kpp⟩, ⟨boz, Koz⟩, ⟨bpo, Kpo⟩⟩, ?_⟩
    rw [sv_Qpt_iff]
    intro o i o1 o2
    omega
-- pt_a
def q_l193 : SvM := ([(0, none), (0, none), (0, none), (0, none), (0, none), (0, none), (-1180591620717411303424, none), (-1180591620717411303424, none), (-1180591620717411303424, none)], [(55, [], [(0, [(0, 1)]), (0, [(1, 1)]), (0, [(2, 1)]), (0, [(3, 1)]), (0, [(4, 1)]), (0, [(5, 1)]), (0, [(6, 1)])]), (4, [112, 1], [(0, [(5, 1)]), (0, [(6, 1)]), (0, [(7, 1)])]), (2, [], [(0, [(5, 1)]), (0, [(8, 1)])]), (0, [], [(0, [(6, 1)])]), (0, [], [(-1, [(6, -1), (8, 1)])]), (0, [], [(0, [(7, -1)])])], [(55, [], [(0, [(0, 1)]), (0, [(1, 1)]), (0, [(2, 1)]), (0, [(3, 1)]), (0, [(4, 1)]), (0, [(5, 1)]), (1, [(6, 1)])])])
theorem q_l193_ok : ∀ (g : Int → Int → Int) (ln : Int → Int) (kf : Int → Nat) (ρ : List Int), sv_BOk ρ q_l193.1 → (∀ f ∈ q_l193.2.1, sv_FQk q_Ks q_Q g ln kf ρ f) → ∀ f ∈ q_l193.2.2, sv_FQk q_Ks q_Q g ln kf ρ f := by
  intro g ln kf ρ hb hf
  obtain ⟨hl, hb⟩ := hb
  obtain ⟨xpk, r0, rfl, l0⟩ := sv_lens hl
  obtain ⟨xpf, r1, rfl, l1⟩ := sv_lens l0
  obtain ⟨xpe, r2, rfl, l2⟩ := sv_lens l1
  obtain ⟨xpp, r3, rfl, l3⟩ := sv_lens l2
  obtain ⟨xoz, r4, rfl, l4⟩ := sv_lens l3
  obtain ⟨xpo, r5, rfl, l5⟩ := sv_lens l4
  obtain ⟨xn, r6, rfl, l6⟩ := sv_lens l5
  obtain ⟨xy, r7, rfl, l7⟩ := sv_lens l6
  obtain ⟨xN, r8, rfl, l8⟩ := sv_lens l7
  obtain rfl := sv_len0 l8
  clear l0 l1 l2 l3 l4 l5 l6 l7 l8 hl
  have bpk : 0 ≤ xpk := (hb 0 _ _ rfl rfl).1
  have bpf : 0 ≤ xpf := (hb 1 _ _ rfl rfl).1
  have bpe : 0 ≤ xpe := (hb 2 _ _ rfl rfl).1
  have bpp : 0 ≤ xpp := (hb 3 _ _ rfl rfl).1
  have boz : 0 ≤ xoz := (hb 4 _ _ rfl rfl).1
  have bpo : 0 ≤ xpo := (hb 5 _ _ rfl rfl).1
  clear hb
  have h0 := hf _ (List.mem_of_getElem? (i := 0) rfl)
  simp [sv_FQk, sv_FQ, sv_evs, sv_ev, sv_evT, sv_nth, sv_adq, sv_gs, q_Ks_39, q_Q_39] at h0
  have h1 := hf _ (List.mem_of_getElem? (i := 1) rfl)
  simp [sv_FQk, sv_FQ, sv_evs, sv_ev, sv_evT, sv_nth, sv_adq, sv_gs] at h1
  have h2 := hf _ (List.mem_of_getElem? (i := 2) rfl)
  simp [sv_FQk, sv_FQ, sv_evs, sv_ev, sv_evT, sv_nth, sv_adq, sv_gs] at h2
  have h3 := hf _ (List.mem_of_getElem? (i := 3) rfl)
  simp [sv_FQk, sv_FQ, sv_evs, sv_ev, sv_evT, sv_nth, sv_adq, sv_gs] at h3
  have h4 := hf _ (List.mem_of_getElem? (i := 4) rfl)
  simp [sv_FQk, sv_FQ, sv_evs, sv_ev, sv_evT, sv_nth, sv_adq, sv_gs] at h4
  have h5 := hf _ (List.mem_of_getElem? (i := 5) rfl)
  simp [sv_FQk, sv_FQ, sv_evs, sv_ev, sv_evT, sv_nth, sv_adq, sv_gs] at h5
  clear hf
  obtain ⟨⟨⟨-, Kpk⟩, ⟨-, Kpf⟩, ⟨-, Kpe⟩, ⟨-, Kpp⟩, ⟨-, Koz⟩, ⟨-, Kpo⟩⟩, h0⟩ := h0
  rw [sv_Qpt_iff] at h0
  replace h1 := h1 bpo (by omega) (by have := h2 bpo; omega)
  intro f hf
  have hf : f ∈ [(55, [], [(0, [(0, 1)]), (0, [(1, 1)]), (0, [(2, 1)]), (0, [(3, 1)]), (0, [(4, 1)]), (0, [(5, 1)]), (1, [(6, 1)])])] := hf
  simp only [List.mem_cons, List.not_mem_nil, or_false] at hf
  subst hf
  · simp [sv_FQk, sv_FQ, sv_evs, sv_ev, sv_evT, sv_nth, sv_adq, sv_gs, q_Ks_39, q_Q_39]
    refine ⟨⟨⟨bpk, Kpk⟩, ⟨bpf, Kpf⟩, ⟨bpe, Kpe⟩, ⟨bpp, Kpp⟩, ⟨boz, Koz⟩, ⟨bpo, Kpo⟩⟩, ?_⟩
    rw [sv_Qpt_iff]
    intro o i o1 o2 i1 i2
    by_cases e : o = xn
    · rw [e, h1] at i2
      omega
    · exact h0 o i o1 (by omega) i1 i2
-- pt_1
def q_l194 : SvM := ([(0, none), (0, none), (0, none), (0, none), (0, none), (0, none), (-1180591620717411303424, none), (-1180591620717411303424, none), (-1180591620717411303424, none), (-1180591620717411303424, none), (-1180591620717411303424, none), (-1180591620717411303424, none), (-1180591620717411303424, none)], [(55, [], [(0, [(0, 1)]), (0, [(1, 1)]), (0, [(2, 1)]), (0, [(3, 1)]), (0, [(4, 1)]), (0, [(5, 1)]), (0, [(6, 1)])]), (4, [112, 1], [(0, [(5, 1)]), (0, [(7, 1)]), (0, [(8, 1)])]), (2, [], [(0, [(5, 1)]), (0, [(9, 1)])]), (0, [], [(0, [(7, 1)])]), (0, [], [(-1, [(6, 1), (7, -1)])]), (0, [], [(-1, [(7, -1), (9, 1)])]), (0, [], [(0, [(10, 1)])]), (0, [], [(-1, [(8, 1), (10, -1)])]), (0, [], [(119, [(10, -1)])]), (4, [113, 1], [(0, [(0, 1)]), (0, [(7, 120), (10, 1)]), (0, [(11, 1)])]), (2, [], [(0, [(0, 1)]), (0, [(12, 1)])]), (0, [], [(-1, [(7, -120), (10, -1), (12, 1)])]), (0, [], [(-22, [(11, 1)])]), (0, [], [(22, [(11, -1)])])], [(0, [], [(-1, [(10, 1)])])])
theorem q_l194_ok : ∀ (g : Int → Int → Int) (ln : Int → Int) (kf : Int → Nat) (ρ : List Int), sv_BOk ρ q_l194.1 → (∀ f ∈ q_l194.2.1, sv_FQk q_Ks q_Q g ln kf ρ f) → ∀ f ∈ q_l194.2.2, sv_FQk q_Ks q_Q g ln kf ρ f := by
  intro g ln kf ρ hb hf
  obtain ⟨hl, hb⟩ := hb
  obtain ⟨xpk, r0, rfl, l0⟩ := sv_lens hl
  obtain ⟨xpf, r1, rfl, l1⟩ := sv_lens l0
  obtain ⟨xpe, r2, rfl, l2⟩ := sv_lens l1
  obtain ⟨xpp, r3, rfl, l3⟩ := sv_lens l2
  obtain ⟨xoz, r4, rfl, l4⟩ := sv_lens l3
  obtain ⟨xpo, r5, rfl, l5⟩ := sv_lens l4
  obtain ⟨xn, r6, rfl, l6⟩ := sv_lens l5
  obtain ⟨xo, r7, rfl, l7⟩ := sv_lens l6
  obtain ⟨xy, r8, rfl, l8⟩ := sv_lens l7
  obtain ⟨xN, r9, rfl, l9⟩ := sv_lens l8
  obtain ⟨xi, r10, rfl, l10⟩ := sv_lens l9
  obtain ⟨xk, r11, rfl, l11⟩ := sv_lens l10
  obtain ⟨xN1, r12, rfl, l12⟩ := sv_lens l11
  obtain rfl := sv_len0 l12
  clear l0 l1 l2 l3 l4 l5 l6 l7 l8 l9 l10 l11 l12 hl
  have bpk : 0 ≤ xpk := (hb 0 _ _ rfl rfl).1
  have bpf : 0 ≤ xpf := (hb 1 _ _ rfl rfl).1
  have bpe : 0 ≤ xpe := (hb 2 _ _ rfl rfl).1
  have bpp : 0 ≤ xpp := (hb 3 _ _ rfl rfl).1
  have boz : 0 ≤ xoz := (hb 4 _ _ rfl rfl).1
  have bpo : 0 ≤ xpo := (hb 5 _ _ rfl rfl).1
  clear hb
  have h0 := hf _ (List.mem_of_getElem? (i := 0) rfl)
  simp [sv_FQk, sv_FQ, sv_evs, sv_ev, sv_evT, sv_nth, sv_adq, sv_gs, q_Ks_39, q_Q_39] at h0
  have h1 := hf _ (List.mem_of_getElem? (i := 1) rfl)
  simp [sv_FQk, sv_FQ, sv_evs, sv_ev, sv_evT, sv_nth, sv_adq, sv_gs] at h1
  have h2 := hf _ (List.mem_of_getElem? (i := 2) rfl)
  simp [sv_FQk, sv_FQ, sv_evs, sv_ev, sv_evT, sv_nth, sv_adq, sv_gs] at h2
  have h3 := hf _ (List.mem_of_getElem? (i := 3) rfl)
  simp [sv_FQk, sv_FQ, sv_evs, sv_ev, sv_evT, sv_nth, sv_adq, sv_gs] at h3
  have h4 := hf _ (List.mem_of_getElem? (i := 4) rfl)
  simp [sv_FQk, sv_FQ, sv_evs, sv_ev, sv_evT, sv_nth, sv_adq, sv_gs] at h4
  have h5 := hf _ (List.mem_of_getElem? (i := 5) rfl)
  simp [sv_FQk, sv_FQ, sv_evs, sv_ev, sv_evT, sv_nth, sv_adq, sv_gs] at h5
  have h6 := hf _ (List.mem_of_getElem? (i := 6) rfl)
  simp [sv_FQk, sv_FQ, sv_evs, sv_ev, sv_evT, sv_nth, sv_adq, sv_gs] at h6
  have h7 := hf _ (List.mem_of_getElem? (i := 7) rfl)
  simp [sv_FQk, sv_FQ, sv_evs, sv_ev, sv_evT, sv_nth, sv_adq, sv_gs] at h7
  have h8 := hf _ (List.mem_of_getElem? (i := 8) rfl)
  simp [sv_FQk, sv_FQ, sv_evs, sv_ev, sv_evT, sv_nth, sv_adq, sv_gs] at h8
  have h9 := hf _ (List.mem_of_getElem? (i := 9) rfl)
  simp [sv_FQk, sv_FQ, sv_evs, sv_ev, sv_evT, sv_nth, sv_adq, sv_gs] at h9
  have h10 := hf _ (List.mem_of_getElem? (i := 10) rfl)
  simp [sv_FQk, sv_FQ, sv_evs, sv_ev, sv_evT, sv_nth, sv_adq, sv_gs] at h10
  have h11 := hf _ (List.mem_of_getElem? (i := 11) rfl)
  simp [sv_FQk, sv_FQ, sv_evs, sv_ev, sv_evT, sv_nth, sv_adq, sv_gs] at h11
  have h12 := hf _ (List.mem_of_getElem? (i := 12) rfl)
  simp [sv_FQk, sv_FQ, sv_evs, sv_ev, sv_evT, sv_nth, sv_adq, sv_gs] at h12
  have h13 := hf _ (List.mem_of_getElem? (i := 13) rfl)
  simp [sv_FQk, sv_FQ, sv_evs, sv_ev, sv_evT, sv_nth, sv_adq, sv_gs] at h13
  clear hf
  obtain ⟨⟨⟨-, Kpk⟩, ⟨-, Kpf⟩, ⟨-, Kpe⟩, ⟨-, Kpp⟩, ⟨-, Koz⟩, ⟨-, Kpo⟩⟩, h0⟩ := h0
  rw [sv_Qpt_iff] at h0
  replace h1 := h1 bpo (by omega) (by have := h2 bpo; omega)
  replace h9 := h9 bpk (by omega) (by have := h10 bpk; omega)
  intro f hf
  have hf : f ∈ [(0, [], [(-1, [(10, 1)])])] := hf
  simp only [List.mem_cons, List.not_mem_nil, or_false] at hf
  subst hf
  · simp [sv_FQk, sv_FQ, sv_evs, sv_ev, sv_evT, sv_nth, sv_adq, sv_gs]
    have q := h0 xo xi (by omega) (by omega) (by omega) (by omega) (by omega) ((sv_fat (by omega) h9).trans (by omega))
    omega
-- pt_2
def q_l195 : SvM := ([(0, none), (0, none), (0, none), (0, none), (0, none), (0, none), (-1180591620717411303424, none), (-1180591620717411303424, none), (-1180591620717411303424, none), (-1180591620717411303424, none), (-1180591620717411303424, none), (-1180591620717411303424, none), (-1180591620717411303424, none), (-1180591620717411303424, none), (-1180591620717411303424, none)], [(55, [], [(0, [(0, 1)]), (0, [(1, 1)]), (0, [(2, 1)]), (0, [(3, 1)]), (0, [(4, 1)]), (0, [(5, 1)]), (0, [(6, 1)])]), (4, [112, 1], [(0, [(5, 1)]), (0, [(7, 1)]), (0, [(8, 1)])]), (2, [], [(0, [(5, 1)]), (0, [(9, 1)])]), (0, [], [(0, [(7, 1)])]), (0, [], [(-1, [(6, 1), (7, -1)])]), (0, [], [(-1, [(7, -1), (9, 1)])]), (0, [], [(0, [(10, 1)])]), (0, [], [(-1, [(8, 1), (10, -1)])]), (0, [], [(119, [(10, -1)])]), (4, [113, 1], [(0, [(0, 1)]), (0, [(7, 120), (10, 1)]), (0, [(11, 1)])]), (2, [], [(0, [(0, 1)]), (0, [(12, 1)])]), (0, [], [(-1, [(7, -120), (10, -1), (12, 1)])]), (0, [], [(-22, [(11, 1)])]), (0, [], [(22, [(11, -1)])]), (4, [117, 1], [(0, [(3, 1)]), (0, [(7, 120), (10, 1)]), (0, [(13, 1)])]), (2, [], [(0, [(3, 1)]), (0, [(14, 1)])]), (0, [], [(-1, [(7, -120), (10, -1), (14, 1)])])], [(0, [], [(0, [(13, 1)])])])
theorem q_l195_ok : ∀ (g : Int → Int → Int) (ln : Int → Int) (kf : Int → Nat) (ρ : List Int), sv_BOk ρ q_l195.1 → (∀ f ∈ q_l195.2.1, sv_FQk q_Ks q_Q g ln kf ρ f) → ∀ f ∈ q_l195.2.2, sv_FQk q_Ks q_Q g ln kf ρ f := by
  intro g ln kf ρ hb hf
  obtain ⟨hl, hb⟩ := hb
  obtain ⟨xpk, r0, rfl, l0⟩ := sv_lens hl
  obtain ⟨xpf, r1, rfl, l1⟩ := sv_lens l0
  obtain ⟨xpe, r2, rfl, l2⟩ := sv_lens l1
  obtain ⟨xpp, r3, rfl, l3⟩ := sv_lens l2
  obtain ⟨xoz, r4, rfl, l4⟩ := sv_lens l3
  obtain ⟨xpo, r5, rfl, l5⟩ := sv_lens l4
  obtain ⟨xn, r6, rfl, l6⟩ := sv_lens l5
  obtain ⟨xo, r7, rfl, l7⟩ := sv_lens l6
  obtain ⟨xy, r8, rfl, l8⟩ := sv_lens l7
  obtain ⟨xN, r9, rfl, l9⟩ := sv_lens l8
  obtain ⟨xi, r10, rfl, l10⟩ := sv_lens l9
  obtain ⟨xk, r11, rfl, l11⟩ := sv_lens l10
  obtain ⟨xN1, r12, rfl, l12⟩ := sv_lens l11
  obtain ⟨xp, r13, rfl, l13⟩ := sv_lens l12
  obtain ⟨xN4, r14, rfl, l14⟩ := sv_lens l13
  obtain rfl := sv_len0 l14
  clear l0 l1 l2 l3 l4 l5 l6 l7 l8 l9 l10 l11 l12 l13 l14 hl
  have bpk : 0 ≤ xpk := (hb 0 _ _ rfl rfl).1
  have bpf : 0 ≤ xpf := (hb 1 _ _ rfl rfl).1
  have bpe : 0 ≤ xpe := (hb 2 _ _ rfl rfl).1
  have bpp : 0 ≤ xpp := (hb 3 _ _ rfl rfl).1
  have boz : 0 ≤ xoz := (hb 4 _ _ rfl rfl).1
  have bpo : 0 ≤ xpo := (hb 5 _ _ rfl rfl).1
  clear hb
  have h0 := hf _ (List.mem_of_getElem? (i := 0) rfl)
  simp [sv_FQk, sv_FQ, sv_evs, sv_ev, sv_evT, sv_nth, sv_adq, sv_gs, q_Ks_39, q_Q_39] at h0
  have h1 := hf _ (List.mem_of_getElem? (i := 1) rfl)
  simp [sv_FQk, sv_FQ, sv_evs, sv_ev, sv_evT, sv_nth, sv_adq, sv_gs] at h1
  have h2 := hf _ (List.mem_of_getElem? (i := 2) rfl)
  simp [sv_FQk, sv_FQ, sv_evs, sv_ev, sv_evT, sv_nth, sv_adq, sv_gs] at h2
  have h3 := hf _ (List.mem_of_getElem? (i := 3) rfl)
  simp [sv_FQk, sv_FQ, sv_evs, sv_ev, sv_evT, sv_nth, sv_adq, sv_gs] at h3
  have h4 := hf _ (List.mem_of_getElem? (i := 4) rfl)
  simp [sv_FQk, sv_FQ, sv_evs, sv_ev, sv_evT, sv_nth, sv_adq, sv_gs] at h4
  have h5 := hf _ (List.mem_of_getElem? (i := 5) rfl)
  simp [sv_FQk, sv_FQ, sv_evs, sv_ev, sv_evT, sv_nth, sv_adq, sv_gs] at h5
  have h6 := hf _ (List.mem_of_getElem? (i := 6) rfl)
  simp [sv_FQk, sv_FQ, sv_evs, sv_ev, sv_evT, sv_nth, sv_adq, sv_gs] at h6
  have h7 := hf _ (List.mem_of_getElem? (i := 7) rfl)
  simp [sv_FQk, sv_FQ, sv_evs, sv_ev, sv_evT, sv_nth, sv_adq, sv_gs] at h7
  have h8 := hf _ (List.mem_of_getElem? (i := 8) rfl)
  simp [sv_FQk, sv_FQ, sv_evs, sv_ev, sv_evT, sv_nth, sv_adq, sv_gs] at h8
  have h9 := hf _ (List.mem_of_getElem? (i := 9) rfl)
  simp [sv_FQk, sv_FQ, sv_evs, sv_ev, sv_evT, sv_nth, sv_adq, sv_gs] at h9
  have h10 := hf _ (List.mem_of_getElem? (i := 10) rfl)
  simp [sv_FQk, sv_FQ, sv_evs, sv_ev, sv_evT, sv_nth, sv_adq, sv_gs] at h10
  have h11 := hf _ (List.mem_of_getElem? (i := 11) rfl)
  simp [sv_FQk, sv_FQ, sv_evs, sv_ev, sv_evT, sv_nth, sv_adq, sv_gs] at h11
  have h12 := hf _ (List.mem_of_getElem? (i := 12) rfl)
  simp [sv_FQk, sv_FQ, sv_evs, sv_ev, sv_evT, sv_nth, sv_adq, sv_gs] at h12
  have h13 := hf _ (List.mem_of_getElem? (i := 13) rfl)
  simp [sv_FQk, sv_FQ, sv_evs, sv_ev, sv_evT, sv_nth, sv_adq, sv_gs] at h13
  have h14 := hf _ (List.mem_of_getElem? (i := 14) rfl)
  simp [sv_FQk, sv_FQ, sv_evs, sv_ev, sv_evT, sv_nth, sv_adq, sv_gs] at h14
  have h15 := hf _ (List.mem_of_getElem? (i := 15) rfl)
  simp [sv_FQk, sv_FQ, sv_evs, sv_ev, sv_evT, sv_nth, sv_adq, sv_gs] at h15
  have h16 := hf _ (List.mem_of_getElem? (i := 16) rfl)
  simp [sv_FQk, sv_FQ, sv_evs, sv_ev, sv_evT, sv_nth, sv_adq, sv_gs] at h16
  clear hf
  obtain ⟨⟨⟨-, Kpk⟩, ⟨-, Kpf⟩, ⟨-, Kpe⟩, ⟨-, Kpp⟩, ⟨-, Koz⟩, ⟨-, Kpo⟩⟩, h0⟩ := h0
  rw [sv_Qpt_iff] at h0
  replace h1 := h1 bpo (by omega) (by have := h2 bpo; omega)
  replace h9 := h9 bpk (by omega) (by have := h10 bpk; omega)
  replace h14 := h14 bpp (by omega) (by have := h15 bpp; omega)
  intro f hf
  have hf : f ∈ [(0, [], [(0, [(13, 1)])])] := hf
  simp only [List.mem_cons, List.not_mem_nil, or_false] at hf
  subst hf
  · simp [sv_FQk, sv_FQ, sv_evs, sv_ev, sv_evT, sv_nth, sv_adq, sv_gs]
    have q := h0 xo xi (by omega) (by omega) (by omega) (by omega) (by omega) ((sv_fat (by omega) h9).trans (by omega))
    have up : g xpp (120 * xo + xi) = xp := sv_fat (by omega) h14
    rw [up] at q
    omega
-- pt_3
def q_l196 : SvM := ([(0, none), (0, none), (0, none), (0, none), (0, none), (0, none), (-1180591620717411303424, none), (-1180591620717411303424, none), (-1180591620717411303424, none), (-1180591620717411303424, none), (-1180591620717411303424, none), (-1180591620717411303424, none), (-1180591620717411303424, none), (-1180591620717411303424, none), (-1180591620717411303424, none), (-1180591620717411303424, none), (-1180591620717411303424, none), (-1180591620717411303424, none), (-1180591620717411303424, none)], [(55, [], [(0, [(0, 1)]), (0, [(1, 1)]), (0, [(2, 1)]), (0, [(3, 1)]), (0, [(4, 1)]), (0, [(5, 1)]), (0, [(6, 1)])]), (4, [112, 1], [(0, [(5, 1)]), (0, [(7, 1)]), (0, [(8, 1)])]), (2, [], [(0, [(5, 1)]), (0, [(9, 1)])]), (0, [], [(0, [(7, 1)])]), (0, [], [(-1, [(6, 1), (7, -1)])]), (0, [], [(-1, [(7, -1), (9, 1)])]), (0, [], [(0, [(10, 1)])]), (0, [], [(-1, [(8, 1), (10, -1)])]), (0, [], [(119, [(10, -1)])]), (4, [113, 1], [(0, [(0, 1)]), (0, [(7, 120), (10, 1)]), (0, [(11, 1)])]), (2, [], [(0, [(0, 1)]), (0, [(12, 1)])]), (0, [], [(-1, [(7, -120), (10, -1), (12, 1)])]), (0, [], [(-22, [(11, 1)])]), (0, [], [(22, [(11, -1)])]), (4, [114, 1], [(0, [(1, 1)]), (0, [(7, 120), (10, 1)]), (0, [(13, 1)])]), (2, [], [(0, [(1, 1)]), (0, [(14, 1)])]), (0, [], [(-1, [(7, -120), (10, -1), (14, 1)])]), (4, [115, 1], [(0, [(2, 1)]), (0, [(7, 120), (10, 1)]), (0, [(15, 1)])]), (2, [], [(0, [(2, 1)]), (0, [(16, 1)])]), (0, [], [(-1, [(7, -120), (10, -1), (16, 1)])]), (4, [111, 1], [(0, [(4, 1)]), (0, [(7, 1)]), (0, [(17, 1)])]), (2, [], [(0, [(4, 1)]), (0, [(18, 1)])]), (0, [], [(-1, [(7, -1), (18, 1)])])], [(0, [], [(0, [(13, 1)])]), (0, [], [(0, [(13, -1), (15, 1)])]), (0, [], [(0, [(15, -1), (17, 1)])])])
theorem q_l196_ok : ∀ (g : Int → Int → Int) (ln : Int → Int) (kf : Int → Nat) (ρ : List Int), sv_BOk ρ q_l196.1 → (∀ f ∈ q_l196.2.1, sv_FQk q_Ks q_Q g ln kf ρ f) → ∀ f ∈ q_l196.2.2, sv_FQk q_Ks q_Q g ln kf ρ f := by
  intro g ln kf ρ hb hf
  obtain ⟨hl, hb⟩ := hb
  obtain ⟨xpk, r0, rfl, l0⟩ := sv_lens hl
  obtain ⟨xpf, r1, rfl, l1⟩ := sv_lens l0
  obtain ⟨xpe, r2, rfl, l2⟩ := sv_lens l1
  obtain ⟨xpp, r3, rfl, l3⟩ := sv_lens l2
  obtain ⟨xoz, r4, rfl, l4⟩ := sv_lens l3
  obtain ⟨xpo, r5, rfl, l5⟩ := sv_lens l4
  obtain ⟨xn, r6, rfl, l6⟩ := sv_lens l5
  obtain ⟨xo, r7, rfl, l7⟩ := sv_lens l6
  obtain ⟨xy, r8, rfl, l8⟩ := sv_lens l7
  obtain ⟨xN, r9, rfl, l9⟩ := sv_lens l8
  obtain ⟨xi, r10, rfl, l10⟩ := sv_lens l9
  obtain ⟨xk, r11, rfl, l11⟩ := sv_lens l10
  obtain ⟨xN1, r12, rfl, l12⟩ := sv_lens l11
  obtain ⟨xf, r13, rfl, l13⟩ := sv_lens l12
  obtain ⟨xN2, r14, rfl, l14⟩ := sv_lens l13
  obtain ⟨xt, r15, rfl, l15⟩ := sv_lens l14
  obtain ⟨xN3, r16, rfl, l16⟩ := sv_lens l15
  obtain ⟨xz, r17, rfl, l17⟩ := sv_lens l16
  obtain ⟨xN5, r18, rfl, l18⟩ := sv_lens l17
  obtain rfl := sv_len0 l18
  clear l0 l1 l2 l3 l4 l5 l6 l7 l8 l9 l10 l11 l12 l13 l14 l15 l16 l17 l18 hl
  have bpk : 0 ≤ xpk := (hb 0 _ _ rfl rfl).1
  have bpf : 0 ≤ xpf := (hb 1 _ _ rfl rfl).1
  have bpe : 0 ≤ xpe := (hb 2 _ _ rfl rfl).1
  have bpp : 0 ≤ xpp := (hb 3 _ _ rfl rfl).1
  have boz : 0 ≤ xoz := (hb 4 _ _ rfl rfl).1
  have bpo : 0 ≤ xpo := (hb 5 _ _ rfl rfl).1
  clear hb
  have h0 := hf _ (List.mem_of_getElem? (i := 0) rfl)
  simp [sv_FQk, sv_FQ, sv_evs, sv_ev, sv_evT, sv_nth, sv_adq, sv_gs, q_Ks_39, q_Q_39] at h0
  have h1 := hf _ (List.mem_of_getElem? (i := 1) rfl)
  simp [sv_FQk, sv_FQ, sv_evs, sv_ev, sv_evT, sv_nth, sv_adq, sv_gs] at h1
  have h2 := hf _ (List.mem_of_getElem? (i := 2) rfl)
  simp [sv_FQk, sv_FQ, sv_evs, sv_ev, sv_evT, sv_nth, sv_adq, sv_gs] at h2
  have h3 := hf _ (List.mem_of_getElem? (i := 3) rfl)
  simp [sv_FQk, sv_FQ, sv_evs, sv_ev, sv_evT, sv_nth, sv_adq, sv_gs] at h3
  have h4 := hf _ (List.mem_of_getElem? (i := 4) rfl)
  simp [sv_FQk, sv_FQ, sv_evs, sv_ev, sv_evT, sv_nth, sv_adq, sv_gs] at h4
  have h5 := hf _ (List.mem_of_getElem? (i := 5) rfl)
  simp [sv_FQk, sv_FQ, sv_evs, sv_ev, sv_evT, sv_nth, sv_adq, sv_gs] at h5
  have h6 := hf _ (List.mem_of_getElem? (i := 6) rfl)
  simp [sv_FQk, sv_FQ, sv_evs, sv_ev, sv_evT, sv_nth, sv_adq, sv_gs] at h6
  have h7 := hf _ (List.mem_of_getElem? (i := 7) rfl)
  simp [sv_FQk, sv_FQ, sv_evs, sv_ev, sv_evT, sv_nth, sv_adq, sv_gs] at h7
  have h8 := hf _ (List.mem_of_getElem? (i := 8) rfl)
  simp [sv_FQk, sv_FQ, sv_evs, sv_ev, sv_evT, sv_nth, sv_adq, sv_gs] at h8
  have h9 := hf _ (List.mem_of_getElem? (i := 9) rfl)
  simp [sv_FQk, sv_FQ, sv_evs, sv_ev, sv_evT, sv_nth, sv_adq, sv_gs] at h9
  have h10 := hf _ (List.mem_of_getElem? (i := 10) rfl)
  simp [sv_FQk, sv_FQ, sv_evs, sv_ev, sv_evT, sv_nth, sv_adq, sv_gs] at h10
  have h11 := hf _ (List.mem_of_getElem? (i := 11) rfl)
  simp [sv_FQk, sv_FQ, sv_evs, sv_ev, sv_evT, sv_nth, sv_adq, sv_gs] at h11
  have h12 := hf _ (List.mem_of_getElem? (i := 12) rfl)
  simp [sv_FQk, sv_FQ, sv_evs, sv_ev, sv_evT, sv_nth, sv_adq, sv_gs] at h12
  have h13 := hf _ (List.mem_of_getElem? (i := 13) rfl)
  simp [sv_FQk, sv_FQ, sv_evs, sv_ev, sv_evT, sv_nth, sv_adq, sv_gs] at h13
  have h14 := hf _ (List.mem_of_getElem? (i := 14) rfl)
  simp [sv_FQk, sv_FQ, sv_evs, sv_ev, sv_evT, sv_nth, sv_adq, sv_gs] at h14
  have h15 := hf _ (List.mem_of_getElem? (i := 15) rfl)
  simp [sv_FQk, sv_FQ, sv_evs, sv_ev, sv_evT, sv_nth, sv_adq, sv_gs] at h15
  have h16 := hf _ (List.mem_of_getElem? (i := 16) rfl)
  simp [sv_FQk, sv_FQ, sv_evs, sv_ev, sv_evT, sv_nth, sv_adq, sv_gs] at h16
  have h17 := hf _ (List.mem_of_getElem? (i := 17) rfl)
  simp [sv_FQk, sv_FQ, sv_evs, sv_ev, sv_evT, sv_nth, sv_adq, sv_gs] at h17
  have h18 := hf _ (List.mem_of_getElem? (i := 18) rfl)
  simp [sv_FQk, sv_FQ, sv_evs, sv_ev, sv_evT, sv_nth, sv_adq, sv_gs] at h18
  have h19 := hf _ (List.mem_of_getElem? (i := 19) rfl)
  simp [sv_FQk, sv_FQ, sv_evs, sv_ev, sv_evT, sv_nth, sv_adq, sv_gs] at h19
  have h20 := hf _ (List.mem_of_getElem? (i := 20) rfl)
  simp [sv_FQk, sv_FQ, sv_evs, sv_ev, sv_evT, sv_nth, sv_adq, sv_gs] at h20
  have h21 := hf _ (List.mem_of_getElem? (i := 21) rfl)
  simp [sv_FQk, sv_FQ, sv_evs, sv_ev, sv_evT, sv_nth, sv_adq, sv_gs] at h21
  have h22 := hf _ (List.mem_of_getElem? (i := 22) rfl)
  simp [sv_FQk, sv_FQ, sv_evs, sv_ev, sv_evT, sv_nth, sv_adq, sv_gs] at h22
  clear hf
  obtain ⟨⟨⟨-, Kpk⟩, ⟨-, Kpf⟩, ⟨-, Kpe⟩, ⟨-, Kpp⟩, ⟨-, Koz⟩, ⟨-, Kpo⟩⟩, h0⟩ := h0
  rw [sv_Qpt_iff] at h0
  replace h1 := h1 bpo (by omega) (by have := h2 bpo; omega)
  replace h9 := h9 bpk (by omega) (by have := h10 bpk; omega)
  replace h14 := h14 bpf (by omega) (by have := h15 bpf; omega)
  replace h17 := h17 bpe (by omega) (by have := h18 bpe; omega)
  replace h20 := h20 boz (by omega) (by have := h21 boz; omega)
  intro f hf
  have hf : f ∈ [(0, [], [(0, [(13, 1)])]), (0, [], [(0, [(13, -1), (15, 1)])]), (0, [], [(0, [(15, -1), (17, 1)])])] := hf
  simp only [List.mem_cons, List.not_mem_nil, or_false] at hf
  rcases hf with rfl | rfl | rfl
  · simp [sv_FQk, sv_FQ, sv_evs, sv_ev, sv_evT, sv_nth, sv_adq, sv_gs]
    have q := h0 xo xi (by omega) (by omega) (by omega) (by omega) (by omega) ((sv_fat (by omega) h9).trans (by omega))
    have uf : g xpf (120 * xo + xi) = xf := sv_fat (by omega) h14
    rw [uf] at q
    have ut : g xpe (120 * xo + xi) = xt := sv_fat (by omega) h17
    rw [ut] at q
    omega
  · simp [sv_FQk, sv_FQ, sv_evs, sv_ev, sv_evT, sv_nth, sv_adq, sv_gs]
    have q := h0 xo xi (by omega) (by omega) (by omega) (by omega) (by omega) ((sv_fat (by omega) h9).trans (by omega))
    have uf : g xpf (120 * xo + xi) = xf := sv_fat (by omega) h14
    rw [uf] at q
    have ut : g xpe (120 * xo + xi) = xt := sv_fat (by omega) h17
    rw [ut] at q
    omega
  · simp [sv_FQk, sv_FQ, sv_evs, sv_ev, sv_evT, sv_nth, sv_adq, sv_gs]
    have q := h0 xo xi (by omega) (by omega) (by omega) (by omega) (by omega) ((sv_fat (by omega) h9).trans (by omega))
    have uf : g xpf (120 * xo + xi) = xf := sv_fat (by omega) h14
    rw [uf] at q
    have ut : g xpe (120 * xo + xi) = xt := sv_fat (by omega) h17
    rw [ut] at q
    omega
-- pt_4
def q_l197 : SvM := ([(0, none), (0, none), (0, none), (0, none), (0, none), (0, none), (-1180591620717411303424, none), (-1180591620717411303424, none), (-1180591620717411303424, none), (-1180591620717411303424, none), (-1180591620717411303424, none), (-1180591620717411303424, none), (-1180591620717411303424, none), (-1180591620717411303424, none), (-1180591620717411303424, none), (-1180591620717411303424, none), (-1180591620717411303424, none), (-1180591620717411303424, none), (-1180591620717411303424, none)], [(55, [], [(0, [(0, 1)]), (0, [(1, 1)]), (0, [(2, 1)]), (0, [(3, 1)]), (0, [(4, 1)]), (0, [(5, 1)]), (0, [(6, 1)])]), (4, [112, 1], [(0, [(5, 1)]), (0, [(7, 1)]), (0, [(8, 1)])]), (2, [], [(0, [(5, 1)]), (0, [(9, 1)])]), (0, [], [(0, [(7, 1)])]), (0, [], [(-1, [(6, 1), (7, -1)])]), (0, [], [(-1, [(7, -1), (9, 1)])]), (0, [], [(0, [(10, 1)])]), (0, [], [(-1, [(8, 1), (10, -1)])]), (0, [], [(119, [(10, -1)])]), (4, [113, 1], [(0, [(0, 1)]), (0, [(7, 120), (10, 1)]), (0, [(11, 1)])]), (2, [], [(0, [(0, 1)]), (0, [(12, 1)])]), (0, [], [(-1, [(7, -120), (10, -1), (12, 1)])]), (0, [], [(-22, [(11, 1)])]), (0, [], [(22, [(11, -1)])]), (0, [], [(-1, [(10, 1)])]), (4, [114, 1], [(0, [(1, 1)]), (-1, [(7, 120), (10, 1)]), (0, [(13, 1)])]), (2, [], [(0, [(1, 1)]), (0, [(14, 1)])]), (0, [], [(0, [(7, -120), (10, -1), (14, 1)])]), (4, [115, 1], [(0, [(2, 1)]), (-1, [(7, 120), (10, 1)]), (0, [(15, 1)])]), (2, [], [(0, [(2, 1)]), (0, [(16, 1)])]), (0, [], [(0, [(7, -120), (10, -1), (16, 1)])]), (4, [111, 1], [(0, [(4, 1)]), (0, [(7, 1)]), (0, [(17, 1)])]), (2, [], [(0, [(4, 1)]), (0, [(18, 1)])]), (0, [], [(-1, [(7, -1), (18, 1)])])], [(0, [], [(0, [(13, 1)])]), (0, [], [(0, [(15, -1), (17, 1)])]), (0, [], [(32, [(13, 1), (15, -1)])])])
theorem q_l197_ok : ∀ (g : Int → Int → Int) (ln : Int → Int) (kf : Int → Nat) (ρ : List Int), sv_BOk ρ q_l197.1 → (∀ f ∈ q_l197.2.1, sv_FQk q_Ks q_Q g ln kf ρ f) → ∀ f ∈ q_l197.2.2, sv_FQk q_Ks q_Q g ln kf ρ f := by
  intro g ln kf ρ hb hf
  obtain ⟨hl, hb⟩ := hb
  obtain ⟨xpk, r0, rfl, l0⟩ := sv_lens hl
  obtain ⟨xpf, r1, rfl, l1⟩ := sv_lens l0
  obtain ⟨xpe, r2, rfl, l2⟩ := sv_lens l1
  obtain ⟨xpp, r3, rfl, l3⟩ := sv_lens l2
  obtain ⟨xoz, r4, rfl, l4⟩ := sv_lens l3
  obtain ⟨xpo, r5, rfl, l5⟩ := sv_lens l4
  obtain ⟨xn, r6, rfl, l6⟩ := sv_lens l5
  obtain ⟨xo, r7, rfl, l7⟩ := sv_lens l6
  obtain ⟨xy, r8, rfl, l8⟩ := sv_lens l7
  obtain ⟨xN, r9, rfl, l9⟩ := sv_lens l8
  obtain ⟨xi, r10, rfl, l10⟩ := sv_lens l9
  obtain ⟨xk, r11, rfl, l11⟩ := sv_lens l10
  obtain ⟨xN1, r12, rfl, l12⟩ := sv_lens l11
  obtain ⟨xf, r13, rfl, l13⟩ := sv_lens l12
  obtain ⟨xN2, r14, rfl, l14⟩ := sv_lens l13
  obtain ⟨xt, r15, rfl, l15⟩ := sv_lens l14
  obtain ⟨xN3, r16, rfl, l16⟩ := sv_lens l15
  obtain ⟨xz, r17, rfl, l17⟩ := sv_lens l16
  obtain ⟨xN5, r18, rfl, l18⟩ := sv_lens l17
  obtain rfl := sv_len0 l18
  clear l0 l1 l2 l3 l4 l5 l6 l7 l8 l9 l10 l11 l12 l13 l14 l15 l16 l17 l18 hl
  have bpk : 0 ≤ xpk := (hb 0 _ _ rfl rfl).1
  have bpf : 0 ≤ xpf := (hb 1 _ _ rfl rfl).1
  have bpe : 0 ≤ xpe := (hb 2 _ _ rfl rfl).1
  have bpp : 0 ≤ xpp := (hb 3 _ _ rfl rfl).1
  have boz : 0 ≤ xoz := (hb 4 _ _ rfl rfl).1
  have bpo : 0 ≤ xpo := (hb 5 _ _ rfl rfl).1
  clear hb
  have h0 := hf _ (List.mem_of_getElem? (i := 0) rfl)
  simp [sv_FQk, sv_FQ, sv_evs, sv_ev, sv_evT, sv_nth, sv_adq, sv_gs, q_Ks_39, q_Q_39] at h0
  have h1 := hf _ (List.mem_of_getElem? (i := 1) rfl)
  simp [sv_FQk, sv_FQ, sv_evs, sv_ev, sv_evT, sv_nth, sv_adq, sv_gs] at h1
  have h2 := hf _ (List.mem_of_getElem? (i := 2) rfl)
  simp [sv_FQk, sv_FQ, sv_evs, sv_ev, sv_evT, sv_nth, sv_adq, sv_gs] at h2
  have h3 := hf _ (List.mem_of_getElem? (i := 3) rfl)
  simp [sv_FQk, sv_FQ, sv_evs, sv_ev, sv_evT, sv_nth, sv_adq, sv_gs] at h3
  have h4 := hf _ (List.mem_of_getElem? (i := 4) rfl)
  simp [sv_FQk, sv_FQ, sv_evs, sv_ev, sv_evT, sv_nth, sv_adq, sv_gs] at h4
  have h5 := hf _ (List.mem_of_getElem? (i := 5) rfl)
  simp [sv_FQk, sv_FQ, sv_evs, sv_ev, sv_evT, sv_nth, sv_adq, sv_gs] at h5
  have h6 := hf _ (List.mem_of_getElem? (i := 6) rfl)
  simp [sv_FQk, sv_FQ, sv_evs, sv_ev, sv_evT, sv_nth, sv_adq, sv_gs] at h6
  have h7 := hf _ (List.mem_of_getElem? (i := 7) rfl)
  simp [sv_FQk, sv_FQ, sv_evs, sv_ev, sv_evT, sv_nth, sv_adq, sv_gs] at h7
  have h8 := hf _ (List.mem_of_getElem? (i := 8) rfl)
  simp [sv_FQk, sv_FQ, sv_evs, sv_ev, sv_evT, sv_nth, sv_adq, sv_gs] at h8
  have h9 := hf _ (List.mem_of_getElem? (i := 9) rfl)
  simp [sv_FQk, sv_FQ, sv_evs, sv_ev, sv_evT, sv_nth, sv_adq, sv_gs] at h9
  have h10 := hf _ (List.mem_of_getElem? (i := 10) rfl)
  simp [sv_FQk, sv_FQ, sv_evs, sv_ev, sv_evT, sv_nth, sv_adq, sv_gs] at h10
  have h11 := hf _ (List.mem_of_getElem? (i := 11) rfl)
  simp [sv_FQk, sv_FQ, sv_evs, sv_ev, sv_evT, sv_nth, sv_adq, sv_gs] at h11
  have h12 := hf _ (List.mem_of_getElem? (i := 12) rfl)
  simp [sv_FQk, sv_FQ, sv_evs, sv_ev, sv_evT, sv_nth, sv_adq, sv_gs] at h12
  have h13 := hf _ (List.mem_of_getElem? (i := 13) rfl)
  simp [sv_FQk, sv_FQ, sv_evs, sv_ev, sv_evT, sv_nth, sv_adq, sv_gs] at h13
  have h14 := hf _ (List.mem_of_getElem? (i := 14) rfl)
  simp [sv_FQk, sv_FQ, sv_evs, sv_ev, sv_evT, sv_nth, sv_adq, sv_gs] at h14
  have h15 := hf _ (List.mem_of_getElem? (i := 15) rfl)
  simp [sv_FQk, sv_FQ, sv_evs, sv_ev, sv_evT, sv_nth, sv_adq, sv_gs] at h15
  have h16 := hf _ (List.mem_of_getElem? (i := 16) rfl)
  simp [sv_FQk, sv_FQ, sv_evs, sv_ev, sv_evT, sv_nth, sv_adq, sv_gs] at h16
  have h17 := hf _ (List.mem_of_getElem? (i := 17) rfl)
  simp [sv_FQk, sv_FQ, sv_evs, sv_ev, sv_evT, sv_nth, sv_adq, sv_gs] at h17
  have h18 := hf _ (List.mem_of_getElem? (i := 18) rfl)
  simp [sv_FQk, sv_FQ, sv_evs, sv_ev, sv_evT, sv_nth, sv_adq, sv_gs] at h18
  have h19 := hf _ (List.mem_of_getElem? (i := 19) rfl)
  simp [sv_FQk, sv_FQ, sv_evs, sv_ev, sv_evT, sv_nth, sv_adq, sv_gs] at h19
  have h20 := hf _ (List.mem_of_getElem? (i := 20) rfl)
  simp [sv_FQk, sv_FQ, sv_evs, sv_ev, sv_evT, sv_nth, sv_adq, sv_gs] at h20
  have h21 := hf _ (List.mem_of_getElem? (i := 21) rfl)
  simp [sv_FQk, sv_FQ, sv_evs, sv_ev, sv_evT, sv_nth, sv_adq, sv_gs] at h21
  have h22 := hf _ (List.mem_of_getElem? (i := 22) rfl)
  simp [sv_FQk, sv_FQ, sv_evs, sv_ev, sv_evT, sv_nth, sv_adq, sv_gs] at h22
  have h23 := hf _ (List.mem_of_getElem? (i := 23) rfl)
  simp [sv_FQk, sv_FQ, sv_evs, sv_ev, sv_evT, sv_nth, sv_adq, sv_gs] at h23
  clear hf
  obtain ⟨⟨⟨-, Kpk⟩, ⟨-, Kpf⟩, ⟨-, Kpe⟩, ⟨-, Kpp⟩, ⟨-, Koz⟩, ⟨-, Kpo⟩⟩, h0⟩ := h0
  rw [sv_Qpt_iff] at h0
  replace h1 := h1 bpo (by omega) (by have := h2 bpo; omega)
  replace h9 := h9 bpk (by omega) (by have := h10 bpk; omega)
  replace h15 := h15 bpf (by omega) (by have := h16 bpf; omega)
  replace h18 := h18 bpe (by omega) (by have := h19 bpe; omega)
  replace h21 := h21 boz (by omega) (by have := h22 boz; omega)
  intro f hf
  have hf : f ∈ [(0, [], [(0, [(13, 1)])]), (0, [], [(0, [(15, -1), (17, 1)])]), (0, [], [(32, [(13, 1), (15, -1)])])] := hf
  simp only [List.mem_cons, List.not_mem_nil, or_false] at hf
  rcases hf with rfl | rfl | rfl
  · simp [sv_FQk, sv_FQ, sv_evs, sv_ev, sv_evT, sv_nth, sv_adq, sv_gs]
    have q := h0 xo xi (by omega) (by omega) (by omega) (by omega) (by omega) ((sv_fat (by omega) h9).trans (by omega))
    have uf : g xpf (120 * xo + (xi - 1)) = xf := sv_fat (by omega) h15
    rw [uf] at q
    have ut : g xpe (120 * xo + (xi - 1)) = xt := sv_fat (by omega) h18
    rw [ut] at q
    omega
  · simp [sv_FQk, sv_FQ, sv_evs, sv_ev, sv_evT, sv_nth, sv_adq, sv_gs]
    have q := h0 xo xi (by omega) (by omega) (by omega) (by omega) (by omega) ((sv_fat (by omega) h9).trans (by omega))
    have uf : g xpf (120 * xo + (xi - 1)) = xf := sv_fat (by omega) h15
    rw [uf] at q
    have ut : g xpe (120 * xo + (xi - 1)) = xt := sv_fat (by omega) h18
    rw [ut] at q
    omega
  · simp [sv_FQk, sv_FQ, sv_evs, sv_ev, sv_evT, sv_nth, sv_adq, sv_gs]
    have q := h0 xo xi (by omega) (by omega) (by omega) (by omega) (by omega) ((sv_fat (by omega) h9).trans (by omega))
    have uf : g xpf (120 * xo + (xi - 1)) = xf := sv_fat (by omega) h15
    rw [uf] at q
    have ut : g xpe (120 * xo + (xi - 1)) = xt := sv_fat (by omega) h18
    rw [ut] at q
    omega
-- hw_0
def q_l198 : SvM := ([(0, none), (-1180591620717411303424, none), (-1180591620717411303424, none)], [(1, [125], [(0, [(0, 1)])]), (0, [], [(0, [(1, -1)])]), (0, [], [(0, [(2, -1)])]), (0, [], [(0, [(2, 1)])])], [(57, [], [(0, [(0, 1)]), (0, [(1, 1)]), (0, [(2, 1)])])])
theorem q_l198_ok : ∀ (g : Int → Int → Int) (ln : Int → Int) (kf : Int → Nat) (ρ : List Int), sv_BOk ρ q_l198.1 → (∀ f ∈ q_l198.2.1, sv_FQk q_Ks q_Q g ln kf ρ f) → ∀ f ∈ q_l198.2.2, sv_FQk q_Ks q_Q g ln kf ρ f := by
  intro g ln kf ρ hb hf
  obtain ⟨hl, hb⟩ := hb
  obtain ⟨xa, r0, rfl, l0⟩ := sv_lens hl
  obtain ⟨xn, r1, rfl, l1⟩ := sv_lens l0
  obtain ⟨xc, r2, rfl, l2⟩ := sv_lens l1
  obtain rfl := sv_len0 l2
  clear l0 l1 l2 hl
  have ba : 0 ≤ xa := (hb 0 _ _ rfl rfl).1
  clear hb
  have h0 := hf _ (List.mem_of_getElem? (i := 0) rfl)
  simp [sv_FQk, sv_FQ, sv_evs, sv_ev, sv_evT, sv_nth, sv_adq, sv_gs] at h0
  have h1 := hf _ (List.mem_of_getElem? (i := 1) rfl)
  simp [sv_FQk, sv_FQ, sv_evs, sv_ev, sv_evT, sv_nth, sv_adq, sv_gs] at h1
  have h2 := hf _ (List.mem_of_getElem? (i := 2) rfl)
  simp [sv_FQk, sv_FQ, sv_evs, sv_ev, sv_evT, sv_nth, sv_adq, sv_gs] at h2
  have h3 := hf _ (List.mem_of_getElem? (i := 3) rfl)
  simp [sv_FQk, sv_FQ, sv_evs, sv_ev, sv_evT, sv_nth, sv_adq, sv_gs] at h3
  clear hf
  have Ka : kf xa = 125 := by omega
  intro f hf
  have hf : f ∈ [(57, [], [(0, [(0, 1)]), (0, [(1, 1)]), (0, [(2, 1)])])] := hf
  simp only [List.mem_cons, List.not_mem_nil, or_false] at hf
  subst hf
  · simp [sv_FQk, sv_FQ, sv_evs, sv_ev, sv_evT, sv_nth, sv_adq, sv_gs, q_Ks_41, q_Q_41]
    refine ⟨⟨ba, Ka⟩, ?_⟩
    rw [sv_Qhn_iff]
    have e : xn.toNat = 0 := by omega
    rw [e]
    exact ⟨by simp only [sv_hn]; omega, fun j j1 j2 => absurd j2 (by omega)⟩
-- hf_0
def q_l199 : SvM := ([(0, none), (-1180591620717411303424, none), (-1180591620717411303424, none)], [(1, [126], [(0, [(0, 1)])]), (0, [], [(0, [(1, -1)])]), (0, [], [(0, [(2, -1)])]), (0, [], [(0, [(2, 1)])])], [(58, [], [(0, [(0, 1)]), (0, [(1, 1)]), (0, [(2, 1)])])])
theorem q_l199_ok : ∀ (g : Int → Int → Int) (ln : Int → Int) (kf : Int → Nat) (ρ : List Int), sv_BOk ρ q_l199.1 → (∀ f ∈ q_l199.2.1, sv_FQk q_Ks q_Q g ln kf ρ f) → ∀ f ∈ q_l199.2.2, sv_FQk q_Ks q_Q g ln kf ρ f := by
  intro g ln kf ρ hb hf
  obtain ⟨hl, hb⟩ := hb
  obtain ⟨xa, r0, rfl, l0⟩ := sv_lens hl
  obtain ⟨xn, r1, rfl, l1⟩ := sv_lens l0
  obtain ⟨xc, r2, rfl, l2⟩ := sv_lens l1
  obtain rfl := sv_len0 l2
  clear l0 l1 l2 hl
  have ba : 0 ≤ xa := (hb 0 _ _ rfl rfl).1
  clear hb
  have h0 := hf _ (List.mem_of_getElem? (i := 0) rfl)
  simp [sv_FQk, sv_FQ, sv_evs, sv_ev, sv_evT, sv_nth, sv_adq, sv_gs] at h0
  have h1 := hf _ (List.mem_of_getElem? (i := 1) rfl)
  simp [sv_FQk, sv_FQ, sv_evs, sv_ev, sv_evT, sv_nth, sv_adq, sv_gs] at h1
  have h2 := hf _ (List.mem_of_getElem? (i := 2) rfl)
  simp [sv_FQk, sv_FQ, sv_evs, sv_ev, sv_evT, sv_nth, sv_adq, sv_gs] at h2
  have h3 := hf _ (List.mem_of_getElem? (i := 3) rfl)
  simp [sv_FQk, sv_FQ, sv_evs, sv_ev, sv_evT, sv_nth, sv_adq, sv_gs] at h3
  clear hf
  have Ka : kf xa = 126 := by omega
  intro f hf
  have hf : f ∈ [(58, [], [(0, [(0, 1)]), (0, [(1, 1)]), (0, [(2, 1)])])] := hf
  simp only [List.mem_cons, List.not_mem_nil, or_false] at hf
  subst hf
  · simp [sv_FQk, sv_FQ, sv_evs, sv_ev, sv_evT, sv_nth, sv_adq, sv_gs, q_Ks_42, q_Q_42]
    refine ⟨⟨ba, Ka⟩, ?_⟩
    rw [sv_Qhn_iff]
    have e : xn.toNat = 0 := by omega
    rw [e]
    exact ⟨by simp only [sv_hn]; omega, fun j j1 j2 => absurd j2 (by omega)⟩
-- fw_h
def q_l200 : SvM := ([(0, none), (0, none)], [(57, [], [(0, [(0, 1)]), (66, []), (368680276301726440449895897154055222909216971687047867454027070932831799701306573381817027206304140923279197899474295605395854142304743385580244403112746247456, [])]), (58, [], [(0, [(1, 1)]), (11, []), (23797387226061030307645, [])])], [(41, [], [(0, [(0, 1)]), (0, [(1, 1)])])])
theorem q_l200_ok : ∀ (g : Int → Int → Int) (ln : Int → Int) (kf : Int → Nat) (ρ : List Int), sv_BOk ρ q_l200.1 → (∀ f ∈ q_l200.2.1, sv_FQk q_Ks q_Q g ln kf ρ f) → ∀ f ∈ q_l200.2.2, sv_FQk q_Ks q_Q g ln kf ρ f := by
  intro g ln kf ρ hb hf
  obtain ⟨hl, hb⟩ := hb
  obtain ⟨xw, r0, rfl, l0⟩ := sv_lens hl
  obtain ⟨xf, r1, rfl, l1⟩ := sv_lens l0
  obtain rfl := sv_len0 l1
  clear l0 l1 hl
  have bw : 0 ≤ xw := (hb 0 _ _ rfl rfl).1
  have bf : 0 ≤ xf := (hb 1 _ _ rfl rfl).1
  clear hb
  have h0 := hf _ (List.mem_of_getElem? (i := 0) rfl)
  simp [sv_FQk, sv_FQ, sv_evs, sv_ev, sv_evT, sv_nth, sv_adq, sv_gs, q_Ks_41, q_Q_41] at h0
  have h1 := hf _ (List.mem_of_getElem? (i := 1) rfl)
  simp [sv_FQk, sv_FQ, sv_evs, sv_ev, sv_evT, sv_nth, sv_adq, sv_gs, q_Ks_42, q_Q_42] at h1
  clear hf
  obtain ⟨⟨-, Kw⟩, h0⟩ := h0
  rw [sv_Qhn_iff] at h0
  obtain ⟨⟨-, Kf⟩, h1⟩ := h1
  rw [sv_Qhn_iff] at h1
  intro f hf
  have hf : f ∈ [(41, [], [(0, [(0, 1)]), (0, [(1, 1)])])] := hf
  simp only [List.mem_cons, List.not_mem_nil, or_false] at hf
  subst hf
  · simp [sv_FQk, sv_FQ, sv_evs, sv_ev, sv_evT, sv_nth, sv_adq, sv_gs, q_Ks_25, q_Q_25]
    refine ⟨⟨⟨bw, Kw⟩, ⟨bf, Kf⟩⟩, ?_⟩
    rw [sv_Qfw_iff]
    exact sv_fw_of h0.1 h0.2 h1.1 h1.2
-- lk_s
def q_m0 : Nat × SvM := (67, ([(0, none), (-1180591620717411303424, none), (-1180591620717411303424, none), (-1180591620717411303424, none), (-1180591620717411303424, none), (-1180591620717411303424, none), (-1180591620717411303424, none)], [(16, [], [(0, [(0, 1)]), (0, [(3, 1)]), (0, [(4, 1)]), (0, [(5, 1)]), (0, [(6, 1)])]), (0, [], [(0, [(1, -1), (4, 1)])]), (0, [], [(0, [(1, 1), (4, -1)])]), (0, [], [(0, [(2, 1), (5, -1)])]), (0, [], [(0, [(2, -1), (6, 1)])])], [(16, [], [(0, [(0, 1)]), (0, [(3, 1)]), (1, [(4, 1)]), (0, [(5, 1)]), (0, [(6, 1)])])]))
theorem q_m0_ok : ∀ (g : Int → Int → Int) (ln : Int → Int) (kf : Int → Nat) (ρ : List Int) (a i x : Int), sv_BOk ρ q_m0.2.1 → (∀ f ∈ q_m0.2.2.1, sv_FQk q_Ks q_Q g ln kf ρ f) → sv_nth ρ 0 = some a → sv_nth ρ 1 = some i → sv_nth ρ 2 = some x → 0 ≤ a → 0 ≤ i → i < ln a → kf a = q_m0.1 → ∀ f ∈ q_m0.2.2.2, sv_FQk q_Ks q_Q (sv_put g a i x) ln kf ρ f := by
  intro g ln kf ρ a i x hb hf n0 n1 n2 p0 p1 p2 p3
  obtain ⟨hl, hb⟩ := hb
  obtain ⟨xa, r0, rfl, l0⟩ := sv_lens hl
  obtain ⟨xi, r1, rfl, l1⟩ := sv_lens l0
  obtain ⟨xx, r2, rfl, l2⟩ := sv_lens l1
  obtain ⟨xlo, r3, rfl, l3⟩ := sv_lens l2
  obtain ⟨xhi, r4, rfl, l4⟩ := sv_lens l3
  obtain ⟨xl, r5, rfl, l5⟩ := sv_lens l4
  obtain ⟨xu, r6, rfl, l6⟩ := sv_lens l5
  obtain rfl := sv_len0 l6
  clear l0 l1 l2 l3 l4 l5 l6 hl
  have ba : 0 ≤ xa := (hb 0 _ _ rfl rfl).1
  clear hb
  obtain rfl : xa = a := by simpa [sv_nth] using n0
  obtain rfl : xi = i := by simpa [sv_nth] using n1
  obtain rfl : xx = x := by simpa [sv_nth] using n2
  clear n0 n1 n2
  have p3 : kf xa = 67 := p3
  have h0 := hf _ (List.mem_of_getElem? (i := 0) rfl)
  simp [sv_FQk, sv_FQ, sv_evs, sv_ev, sv_evT, sv_nth, sv_adq, sv_gs, q_Ks_0, q_Q_0] at h0
  have h1 := hf _ (List.mem_of_getElem? (i := 1) rfl)
  simp [sv_FQk, sv_FQ, sv_evs, sv_ev, sv_evT, sv_nth, sv_adq, sv_gs] at h1
  have h2 := hf _ (List.mem_of_getElem? (i := 2) rfl)
  simp [sv_FQk, sv_FQ, sv_evs, sv_ev, sv_evT, sv_nth, sv_adq, sv_gs] at h2
  have h3 := hf _ (List.mem_of_getElem? (i := 3) rfl)
  simp [sv_FQk, sv_FQ, sv_evs, sv_ev, sv_evT, sv_nth, sv_adq, sv_gs] at h3
  have h4 := hf _ (List.mem_of_getElem? (i := 4) rfl)
  simp [sv_FQk, sv_FQ, sv_evs, sv_ev, sv_evT, sv_nth, sv_adq, sv_gs] at h4
  clear hf
  obtain ⟨⟨-, Ka⟩, h0⟩ := h0
  rw [sv_Qlin_iff] at h0
  intro f hf
  have hf : f ∈ [(16, [], [(0, [(0, 1)]), (0, [(3, 1)]), (1, [(4, 1)]), (0, [(5, 1)]), (0, [(6, 1)])])] := hf
  simp only [List.mem_cons, List.not_mem_nil, or_false] at hf
  subst hf
  · simp [sv_FQk, sv_FQ, sv_evs, sv_ev, sv_evT, sv_nth, sv_adq, sv_gs, q_Ks_0, q_Q_0]
    refine ⟨⟨ba, Ka⟩, ?_⟩
    rw [sv_Qlin_iff]
    simp only [sv_put_eq]
    intro j j1 j2
    by_cases e : j = xi
    · rw [if_pos e]
      omega
    · rw [if_neg e]
      exact h0 j j1 (by omega)
-- lk_k
def q_m1 : Nat × SvM := (67, ([(0, none), (-1180591620717411303424, none), (-1180591620717411303424, none), (-1180591620717411303424, none), (-1180591620717411303424, none), (-1180591620717411303424, none), (-1180591620717411303424, none)], [(16, [], [(0, [(0, 1)]), (0, [(3, 1)]), (0, [(4, 1)]), (0, [(5, 1)]), (0, [(6, 1)])]), (0, [], [(0, [(2, 1), (5, -1)])]), (0, [], [(0, [(2, -1), (6, 1)])])], [(16, [], [(0, [(0, 1)]), (0, [(3, 1)]), (0, [(4, 1)]), (0, [(5, 1)]), (0, [(6, 1)])])]))
theorem q_m1_ok : ∀ (g : Int → Int → Int) (ln : Int → Int) (kf : Int → Nat) (ρ : List Int) (a i x : Int), sv_BOk ρ q_m1.2.1 → (∀ f ∈ q_m1.2.2.1, sv_FQk q_Ks q_Q g ln kf ρ f) → sv_nth ρ 0 = some a → sv_nth ρ 1 = some i → sv_nth ρ 2 = some x → 0 ≤ a → 0 ≤ i → i < ln a → kf a = q_m1.1 → ∀ f ∈ q_m1.2.2.2, sv_FQk q_Ks q_Q (sv_put g a i x) ln kf ρ f := by
  intro g ln kf ρ a i x hb hf n0 n1 n2 p0 p1 p2 p3
  obtain ⟨hl, hb⟩ := hb
  obtain ⟨xa, r0, rfl, l0⟩ := sv_lens hl
  obtain ⟨xi, r1, rfl, l1⟩ := sv_lens l0
  obtain ⟨xx, r2, rfl, l2⟩ := sv_lens l1
  obtain ⟨xlo, r3, rfl, l3⟩ := sv_lens l2
  obtain ⟨xhi, r4, rfl, l4⟩ := sv_lens l3
  obtain ⟨xl, r5, rfl, l5⟩ := sv_lens l4
  obtain ⟨xu, r6, rfl, l6⟩ := sv_lens l5
  obtain rfl := sv_len0 l6
  clear l0 l1 l2 l3 l4 l5 l6 hl
  have ba : 0 ≤ xa := (hb 0 _ _ rfl rfl).1
  clear hb
  obtain rfl : xa = a := by simpa [sv_nth] using n0
  obtain rfl : xi = i := by simpa [sv_nth] using n1
  obtain rfl : xx = x := by simpa [sv_nth] using n2
  clear n0 n1 n2
  have p3 : kf xa = 67 := p3
  have h0 := hf _ (List.mem_of_getElem? (i := 0) rfl)
  simp [sv_FQk, sv_FQ, sv_evs, sv_ev, sv_evT, sv_nth, sv_adq, sv_gs, q_Ks_0, q_Q_0] at h0
  have h1 := hf _ (List.mem_of_getElem? (i := 1) rfl)
  simp [sv_FQk, sv_FQ, sv_evs, sv_ev, sv_evT, sv_nth, sv_adq, sv_gs] at h1
  have h2 := hf _ (List.mem_of_getElem? (i := 2) rfl)
  simp [sv_FQk, sv_FQ, sv_evs, sv_ev, sv_evT, sv_nth, sv_adq, sv_gs] at h2
  clear hf
  obtain ⟨⟨-, Ka⟩, h0⟩ := h0
  rw [sv_Qlin_iff] at h0
  intro f hf
  have hf : f ∈ [(16, [], [(0, [(0, 1)]), (0, [(3, 1)]), (0, [(4, 1)]), (0, [(5, 1)]), (0, [(6, 1)])])] := hf
  simp only [List.mem_cons, List.not_mem_nil, or_false] at hf
  subst hf
  · simp [sv_FQk, sv_FQ, sv_evs, sv_ev, sv_evT, sv_nth, sv_adq, sv_gs, q_Ks_0, q_Q_0]
    refine ⟨⟨ba, Ka⟩, ?_⟩
    rw [sv_Qlin_iff]
    simp only [sv_put_eq]
    intro j j1 j2
    by_cases e : j = xi
    · rw [if_pos e]
      try rw [e]
      omega
    · rw [if_neg e]
      exact h0 j j1 j2
-- lk_o
def q_m2 : Nat × SvM := (67, ([(0, none), (-1180591620717411303424, none), (-1180591620717411303424, none), (-1180591620717411303424, none), (-1180591620717411303424, none), (-1180591620717411303424, none), (-1180591620717411303424, none)], [(16, [], [(0, [(0, 1)]), (0, [(3, 1)]), (0, [(4, 1)]), (0, [(5, 1)]), (0, [(6, 1)])]), (0, [], [(0, [(1, 1), (4, -1)])])], [(16, [], [(0, [(0, 1)]), (0, [(3, 1)]), (0, [(4, 1)]), (0, [(5, 1)]), (0, [(6, 1)])])]))
theorem q_m2_ok : ∀ (g : Int → Int → Int) (ln : Int → Int) (kf : Int → Nat) (ρ : List Int) (a i x : Int), sv_BOk ρ q_m2.2.1 → (∀ f ∈ q_m2.2.2.1, sv_FQk q_Ks q_Q g ln kf ρ f) → sv_nth ρ 0 = some a → sv_nth ρ 1 = some i → sv_nth ρ 2 = some x → 0 ≤ a → 0 ≤ i → i < ln a → kf a = q_m2.1 → ∀ f ∈ q_m2.2.2.2, sv_FQk q_Ks q_Q (sv_put g a i x) ln kf ρ f := by
  intro g ln kf ρ a i x hb hf n0 n1 n2 p0 p1 p2 p3
  obtain ⟨hl, hb⟩ := hb
  obtain ⟨xa, r0, rfl, l0⟩ := sv_lens hl
  obtain ⟨xi, r1, rfl, l1⟩ := sv_lens l0
  obtain ⟨xx, r2, rfl, l2⟩ := sv_lens l1
  obtain ⟨xlo, r3, rfl, l3⟩ := sv_lens l2
  obtain ⟨xhi, r4, rfl, l4⟩ := sv_lens l3
  obtain ⟨xl, r5, rfl, l5⟩ := sv_lens l4
  obtain ⟨xu, r6, rfl, l6⟩ := sv_lens l5
  obtain rfl := sv_len0 l6
  clear l0 l1 l2 l3 l4 l5 l6 hl
  have ba : 0 ≤ xa := (hb 0 _ _ rfl rfl).1
  clear hb
  obtain rfl : xa = a := by simpa [sv_nth] using n0
  obtain rfl : xi = i := by simpa [sv_nth] using n1
  obtain rfl : xx = x := by simpa [sv_nth] using n2
  clear n0 n1 n2
  have p3 : kf xa = 67 := p3
  have h0 := hf _ (List.mem_of_getElem? (i := 0) rfl)
  simp [sv_FQk, sv_FQ, sv_evs, sv_ev, sv_evT, sv_nth, sv_adq, sv_gs, q_Ks_0, q_Q_0] at h0
  have h1 := hf _ (List.mem_of_getElem? (i := 1) rfl)
  simp [sv_FQk, sv_FQ, sv_evs, sv_ev, sv_evT, sv_nth, sv_adq, sv_gs] at h1
  clear hf
  obtain ⟨⟨-, Ka⟩, h0⟩ := h0
  rw [sv_Qlin_iff] at h0
  intro f hf
  have hf : f ∈ [(16, [], [(0, [(0, 1)]), (0, [(3, 1)]), (0, [(4, 1)]), (0, [(5, 1)]), (0, [(6, 1)])])] := hf
  simp only [List.mem_cons, List.not_mem_nil, or_false] at hf
  subst hf
  · simp [sv_FQk, sv_FQ, sv_evs, sv_ev, sv_evT, sv_nth, sv_adq, sv_gs, q_Ks_0, q_Q_0]
    refine ⟨⟨ba, Ka⟩, ?_⟩
    rw [sv_Qlin_iff]
    simp only [sv_put_eq]
    intro j j1 j2
    rw [if_neg (by omega)]
    exact h0 j j1 j2
-- lk_p
def q_m3 : Nat × SvM := (67, ([(0, none), (-1180591620717411303424, none), (-1180591620717411303424, none), (-1180591620717411303424, none), (-1180591620717411303424, none), (-1180591620717411303424, none), (-1180591620717411303424, none)], [(16, [], [(0, [(0, 1)]), (0, [(3, 1)]), (0, [(4, 1)]), (0, [(5, 1)]), (0, [(6, 1)])]), (0, [], [(-1, [(1, -1), (3, 1)])])], [(16, [], [(0, [(0, 1)]), (0, [(3, 1)]), (0, [(4, 1)]), (0, [(5, 1)]), (0, [(6, 1)])])]))
theorem q_m3_ok : ∀ (g : Int → Int → Int) (ln : Int → Int) (kf : Int → Nat) (ρ : List Int) (a i x : Int), sv_BOk ρ q_m3.2.1 → (∀ f ∈ q_m3.2.2.1, sv_FQk q_Ks q_Q g ln kf ρ f) → sv_nth ρ 0 = some a → sv_nth ρ 1 = some i → sv_nth ρ 2 = some x → 0 ≤ a → 0 ≤ i → i < ln a → kf a = q_m3.1 → ∀ f ∈ q_m3.2.2.2, sv_FQk q_Ks q_Q (sv_put g a i x) ln kf ρ f := by
  intro g ln kf ρ a i x hb hf n0 n1 n2 p0 p1 p2 p3
  obtain ⟨hl, hb⟩ := hb
  obtain ⟨xa, r0, rfl, l0⟩ := sv_lens hl
  obtain ⟨xi, r1, rfl, l1⟩ := sv_lens l0
  obtain ⟨xx, r2, rfl, l2⟩ := sv_lens l1
  obtain ⟨xlo, r3, rfl, l3⟩ := sv_lens l2
  obtain ⟨xhi, r4, rfl, l4⟩ := sv_lens l3
  obtain ⟨xl, r5, rfl, l5⟩ := sv_lens l4
  obtain ⟨xu, r6, rfl, l6⟩ := sv_lens l5
  obtain rfl := sv_len0 l6
  clear l0 l1 l2 l3 l4 l5 l6 hl
  have ba : 0 ≤ xa := (hb 0 _ _ rfl rfl).1
  clear hb
  obtain rfl : xa = a := by simpa [sv_nth] using n0
  obtain rfl : xi = i := by simpa [sv_nth] using n1
  obtain rfl : xx = x := by simpa [sv_nth] using n2
  clear n0 n1 n2
  have p3 : kf xa = 67 := p3
  have h0 := hf _ (List.mem_of_getElem? (i := 0) rfl)
  simp [sv_FQk, sv_FQ, sv_evs, sv_ev, sv_evT, sv_nth, sv_adq, sv_gs, q_Ks_0, q_Q_0] at h0
  have h1 := hf _ (List.mem_of_getElem? (i := 1) rfl)
  simp [sv_FQk, sv_FQ, sv_evs, sv_ev, sv_evT, sv_nth, sv_adq, sv_gs] at h1
  clear hf
  obtain ⟨⟨-, Ka⟩, h0⟩ := h0
  rw [sv_Qlin_iff] at h0
  intro f hf
  have hf : f ∈ [(16, [], [(0, [(0, 1)]), (0, [(3, 1)]), (0, [(4, 1)]), (0, [(5, 1)]), (0, [(6, 1)])])] := hf
  simp only [List.mem_cons, List.not_mem_nil, or_false] at hf
  subst hf
  · simp [sv_FQk, sv_FQ, sv_evs, sv_ev, sv_evT, sv_nth, sv_adq, sv_gs, q_Ks_0, q_Q_0]
    refine ⟨⟨ba, Ka⟩, ?_⟩
    rw [sv_Qlin_iff]
    simp only [sv_put_eq]
    intro j j1 j2
    rw [if_neg (by omega)]
    exact h0 j j1 j2
-- ds_s
def q_m4 : Nat × SvM := (67, ([(0, none), (-1180591620717411303424, none), (-1180591620717411303424, none), (-1180591620717411303424, none)], [(17, [], [(0, [(0, 1)]), (0, [(3, 1)])]), (18, [], [(0, [(0, 1)]), (0, [(3, 1)]), (0, [(2, 1)])]), (0, [], [(0, [(1, -1), (3, 1)])]), (0, [], [(0, [(1, 1), (3, -1)])]), (0, [], [(0, [(3, 1)])])], [(17, [], [(0, [(0, 1)]), (1, [(3, 1)])])]))
theorem q_m4_ok : ∀ (g : Int → Int → Int) (ln : Int → Int) (kf : Int → Nat) (ρ : List Int) (a i x : Int), sv_BOk ρ q_m4.2.1 → (∀ f ∈ q_m4.2.2.1, sv_FQk q_Ks q_Q g ln kf ρ f) → sv_nth ρ 0 = some a → sv_nth ρ 1 = some i → sv_nth ρ 2 = some x → 0 ≤ a → 0 ≤ i → i < ln a → kf a = q_m4.1 → ∀ f ∈ q_m4.2.2.2, sv_FQk q_Ks q_Q (sv_put g a i x) ln kf ρ f := by
  intro g ln kf ρ a i x hb hf n0 n1 n2 p0 p1 p2 p3
  obtain ⟨hl, hb⟩ := hb
  obtain ⟨xa, r0, rfl, l0⟩ := sv_lens hl
  obtain ⟨xi, r1, rfl, l1⟩ := sv_lens l0
  obtain ⟨xx, r2, rfl, l2⟩ := sv_lens l1
  obtain ⟨xn, r3, rfl, l3⟩ := sv_lens l2
  obtain rfl := sv_len0 l3
  clear l0 l1 l2 l3 hl
  have ba : 0 ≤ xa := (hb 0 _ _ rfl rfl).1
  clear hb
  obtain rfl : xa = a := by simpa [sv_nth] using n0
  obtain rfl : xi = i := by simpa [sv_nth] using n1
  obtain rfl : xx = x := by simpa [sv_nth] using n2
  clear n0 n1 n2
  have p3 : kf xa = 67 := p3
  have h0 := hf _ (List.mem_of_getElem? (i := 0) rfl)
  simp [sv_FQk, sv_FQ, sv_evs, sv_ev, sv_evT, sv_nth, sv_adq, sv_gs, q_Ks_1, q_Q_1] at h0
  have h1 := hf _ (List.mem_of_getElem? (i := 1) rfl)
  simp [sv_FQk, sv_FQ, sv_evs, sv_ev, sv_evT, sv_nth, sv_adq, sv_gs, q_Ks_2, q_Q_2] at h1
  have h2 := hf _ (List.mem_of_getElem? (i := 2) rfl)
  simp [sv_FQk, sv_FQ, sv_evs, sv_ev, sv_evT, sv_nth, sv_adq, sv_gs] at h2
  have h3 := hf _ (List.mem_of_getElem? (i := 3) rfl)
  simp [sv_FQk, sv_FQ, sv_evs, sv_ev, sv_evT, sv_nth, sv_adq, sv_gs] at h3
  have h4 := hf _ (List.mem_of_getElem? (i := 4) rfl)
  simp [sv_FQk, sv_FQ, sv_evs, sv_ev, sv_evT, sv_nth, sv_adq, sv_gs] at h4
  clear hf
  obtain ⟨⟨-, Ka⟩, h0⟩ := h0
  rw [sv_Qds_iff] at h0
  obtain ⟨⟨-, Ka⟩, h1⟩ := h1
  rw [sv_Qni_iff] at h1
  intro f hf
  have hf : f ∈ [(17, [], [(0, [(0, 1)]), (1, [(3, 1)])])] := hf
  simp only [List.mem_cons, List.not_mem_nil, or_false] at hf
  subst hf
  · simp [sv_FQk, sv_FQ, sv_evs, sv_ev, sv_evT, sv_nth, sv_adq, sv_gs, q_Ks_1, q_Q_1]
    refine ⟨⟨ba, Ka⟩, ?_⟩
    rw [sv_Qds_iff]
    simp only [sv_put_eq]
    intro i j i1 i2 i3
    rw [if_neg (by omega : ¬ i = xi)]
    by_cases e : j = xi
    · rw [if_pos e]
      exact h1 i i1 (by omega)
    · rw [if_neg e]
      exact h0 i j i1 i2 (by omega)
-- ds_o
def q_m5 : Nat × SvM := (67, ([(0, none), (-1180591620717411303424, none), (-1180591620717411303424, none), (-1180591620717411303424, none)], [(17, [], [(0, [(0, 1)]), (0, [(3, 1)])]), (0, [], [(0, [(1, 1), (3, -1)])])], [(17, [], [(0, [(0, 1)]), (0, [(3, 1)])])]))
theorem q_m5_ok : ∀ (g : Int → Int → Int) (ln : Int → Int) (kf : Int → Nat) (ρ : List Int) (a i x : Int), sv_BOk ρ q_m5.2.1 → (∀ f ∈ q_m5.2.2.1, sv_FQk q_Ks q_Q g ln kf ρ f) → sv_nth ρ 0 = some a → sv_nth ρ 1 = some i → sv_nth ρ 2 = some x → 0 ≤ a → 0 ≤ i → i < ln a → kf a = q_m5.1 → ∀ f ∈ q_m5.2.2.2, sv_FQk q_Ks q_Q (sv_put g a i x) ln kf ρ f := by
  intro g ln kf ρ a i x hb hf n0 n1 n2 p0 p1 p2 p3
  obtain ⟨hl, hb⟩ := hb
  obtain ⟨xa, r0, rfl, l0⟩ := sv_lens hl
  obtain ⟨xi, r1, rfl, l1⟩ := sv_lens l0
  obtain ⟨xx, r2, rfl, l2⟩ := sv_lens l1
  obtain ⟨xn, r3, rfl, l3⟩ := sv_lens l2
  obtain rfl := sv_len0 l3
  clear l0 l1 l2 l3 hl
  have ba : 0 ≤ xa := (hb 0 _ _ rfl rfl).1
  clear hb
  obtain rfl : xa = a := by simpa [sv_nth] using n0
  obtain rfl : xi = i := by simpa [sv_nth] using n1
  obtain rfl : xx = x := by simpa [sv_nth] using n2
  clear n0 n1 n2
  have p3 : kf xa = 67 := p3
  have h0 := hf _ (List.mem_of_getElem? (i := 0) rfl)
  simp [sv_FQk, sv_FQ, sv_evs, sv_ev, sv_evT, sv_nth, sv_adq, sv_gs, q_Ks_1, q_Q_1] at h0
  have h1 := hf _ (List.mem_of_getElem? (i := 1) rfl)
  simp [sv_FQk, sv_FQ, sv_evs, sv_ev, sv_evT, sv_nth, sv_adq, sv_gs] at h1
  clear hf
  obtain ⟨⟨-, Ka⟩, h0⟩ := h0
  rw [sv_Qds_iff] at h0
  intro f hf
  have hf : f ∈ [(17, [], [(0, [(0, 1)]), (0, [(3, 1)])])] := hf
  simp only [List.mem_cons, List.not_mem_nil, or_false] at hf
  subst hf
  · simp [sv_FQk, sv_FQ, sv_evs, sv_ev, sv_evT, sv_nth, sv_adq, sv_gs, q_Ks_1, q_Q_1]
    refine ⟨⟨ba, Ka⟩, ?_⟩
    rw [sv_Qds_iff]
    simp only [sv_put_eq]
    intro i j i1 i2 i3
    rw [if_neg (by omega : ¬ i = xi), if_neg (by omega : ¬ j = xi)]
    exact h0 i j i1 i2 i3
-- nm_s1
def q_m6 : Nat × SvM := (65, ([(0, none), (-1180591620717411303424, none), (-1180591620717411303424, none), (0, none), (-1180591620717411303424, none), (-1180591620717411303424, none), (-1180591620717411303424, none), (-1180591620717411303424, none), (-1180591620717411303424, none), (-1180591620717411303424, none)], [(19, [], [(0, [(0, 1)]), (0, [(3, 1)]), (0, [(6, 1)]), (0, [(7, 1)]), (0, [(8, 1)]), (0, [(9, 1)])]), (4, [66, 1], [(0, [(3, 1)]), (0, [(1, 1)]), (0, [(4, 1)])]), (2, [], [(0, [(3, 1)]), (0, [(5, 1)])]), (0, [], [(0, [(1, 1)])]), (0, [], [(-1, [(1, -1), (5, 1)])]), (0, [], [(0, [(1, -1), (7, 1)])]), (0, [], [(0, [(1, 1), (7, -1)])]), (0, [], [(0, [(2, -1), (4, 1), (8, -1)])]), (0, [], [(0, [(2, 1), (4, -1), (9, 1)])])], [(19, [], [(0, [(0, 1)]), (0, [(3, 1)]), (0, [(6, 1)]), (1, [(7, 1)]), (0, [(8, 1)]), (0, [(9, 1)])])]))
theorem q_m6_ok : ∀ (g : Int → Int → Int) (ln : Int → Int) (kf : Int → Nat) (ρ : List Int) (a i x : Int), sv_BOk ρ q_m6.2.1 → (∀ f ∈ q_m6.2.2.1, sv_FQk q_Ks q_Q g ln kf ρ f) → sv_nth ρ 0 = some a → sv_nth ρ 1 = some i → sv_nth ρ 2 = some x → 0 ≤ a → 0 ≤ i → i < ln a → kf a = q_m6.1 → ∀ f ∈ q_m6.2.2.2, sv_FQk q_Ks q_Q (sv_put g a i x) ln kf ρ f := by
  intro g ln kf ρ a i x hb hf n0 n1 n2 p0 p1 p2 p3
  obtain ⟨hl, hb⟩ := hb
  obtain ⟨xa, r0, rfl, l0⟩ := sv_lens hl
  obtain ⟨xi, r1, rfl, l1⟩ := sv_lens l0
  obtain ⟨xx, r2, rfl, l2⟩ := sv_lens l1
  obtain ⟨xb, r3, rfl, l3⟩ := sv_lens l2
  obtain ⟨xy, r4, rfl, l4⟩ := sv_lens l3
  obtain ⟨xM, r5, rfl, l5⟩ := sv_lens l4
  obtain ⟨xlo, r6, rfl, l6⟩ := sv_lens l5
  obtain ⟨xhi, r7, rfl, l7⟩ := sv_lens l6
  obtain ⟨xl, r8, rfl, l8⟩ := sv_lens l7
  obtain ⟨xu, r9, rfl, l9⟩ := sv_lens l8
  obtain rfl := sv_len0 l9
  clear l0 l1 l2 l3 l4 l5 l6 l7 l8 l9 hl
  have ba : 0 ≤ xa := (hb 0 _ _ rfl rfl).1
  have bb : 0 ≤ xb := (hb 3 _ _ rfl rfl).1
  clear hb
  obtain rfl : xa = a := by simpa [sv_nth] using n0
  obtain rfl : xi = i := by simpa [sv_nth] using n1
  obtain rfl : xx = x := by simpa [sv_nth] using n2
  clear n0 n1 n2
  have p3 : kf xa = 65 := p3
  have h0 := hf _ (List.mem_of_getElem? (i := 0) rfl)
  simp [sv_FQk, sv_FQ, sv_evs, sv_ev, sv_evT, sv_nth, sv_adq, sv_gs, q_Ks_3, q_Q_3] at h0
  have h1 := hf _ (List.mem_of_getElem? (i := 1) rfl)
  simp [sv_FQk, sv_FQ, sv_evs, sv_ev, sv_evT, sv_nth, sv_adq, sv_gs] at h1
  have h2 := hf _ (List.mem_of_getElem? (i := 2) rfl)
  simp [sv_FQk, sv_FQ, sv_evs, sv_ev, sv_evT, sv_nth, sv_adq, sv_gs] at h2
  have h3 := hf _ (List.mem_of_getElem? (i := 3) rfl)
  simp [sv_FQk, sv_FQ, sv_evs, sv_ev, sv_evT, sv_nth, sv_adq, sv_gs] at h3
  have h4 := hf _ (List.mem_of_getElem? (i := 4) rfl)
  simp [sv_FQk, sv_FQ, sv_evs, sv_ev, sv_evT, sv_nth, sv_adq, sv_gs] at h4
  have h5 := hf _ (List.mem_of_getElem? (i := 5) rfl)
  simp [sv_FQk, sv_FQ, sv_evs, sv_ev, sv_evT, sv_nth, sv_adq, sv_gs] at h5
  have h6 := hf _ (List.mem_of_getElem? (i := 6) rfl)
  simp [sv_FQk, sv_FQ, sv_evs, sv_ev, sv_evT, sv_nth, sv_adq, sv_gs] at h6
  have h7 := hf _ (List.mem_of_getElem? (i := 7) rfl)
  simp [sv_FQk, sv_FQ, sv_evs, sv_ev, sv_evT, sv_nth, sv_adq, sv_gs] at h7
  have h8 := hf _ (List.mem_of_getElem? (i := 8) rfl)
  simp [sv_FQk, sv_FQ, sv_evs, sv_ev, sv_evT, sv_nth, sv_adq, sv_gs] at h8
  clear hf
  obtain ⟨⟨⟨-, Ka⟩, ⟨-, Kb⟩⟩, h0⟩ := h0
  rw [sv_Qlin2_iff] at h0
  replace h1 := h1 bb (by omega) (by have := h2 bb; omega)
  have eb : sv_put g xa xi xx xb = g xb := sv_put_ne (sv_kf_ne Kb p3 (by decide))
  intro f hf
  have hf : f ∈ [(19, [], [(0, [(0, 1)]), (0, [(3, 1)]), (0, [(6, 1)]), (1, [(7, 1)]), (0, [(8, 1)]), (0, [(9, 1)])])] := hf
  simp only [List.mem_cons, List.not_mem_nil, or_false] at hf
  subst hf
  · simp [sv_FQk, sv_FQ, sv_evs, sv_ev, sv_evT, sv_nth, sv_adq, sv_gs, q_Ks_3, q_Q_3]
    refine ⟨⟨⟨ba, Ka⟩, ⟨bb, Kb⟩⟩, ?_⟩
    rw [sv_Qlin2_iff]
    simp only [sv_put_eq, eb]
    intro j j1 j2
    by_cases e : j = xi
    · rw [if_pos e, e, h1]
      omega
    · rw [if_neg e]
      exact h0 j j1 (by omega)
-- nm_s2
def q_m7 : Nat × SvM := (66, ([(0, none), (-1180591620717411303424, none), (-1180591620717411303424, none), (0, none), (-1180591620717411303424, none), (-1180591620717411303424, none), (-1180591620717411303424, none), (-1180591620717411303424, none), (-1180591620717411303424, none), (-1180591620717411303424, none)], [(19, [], [(0, [(3, 1)]), (0, [(0, 1)]), (0, [(6, 1)]), (0, [(7, 1)]), (0, [(8, 1)]), (0, [(9, 1)])]), (4, [65, 1], [(0, [(3, 1)]), (0, [(1, 1)]), (0, [(4, 1)])]), (2, [], [(0, [(3, 1)]), (0, [(5, 1)])]), (0, [], [(0, [(1, 1)])]), (0, [], [(-1, [(1, -1), (5, 1)])]), (0, [], [(0, [(1, -1), (7, 1)])]), (0, [], [(0, [(1, 1), (7, -1)])]), (0, [], [(0, [(2, 1), (4, -1), (8, -1)])]), (0, [], [(0, [(2, -1), (4, 1), (9, 1)])])], [(19, [], [(0, [(3, 1)]), (0, [(0, 1)]), (0, [(6, 1)]), (1, [(7, 1)]), (0, [(8, 1)]), (0, [(9, 1)])])]))
theorem q_m7_ok : ∀ (g : Int → Int → Int) (ln : Int → Int) (kf : Int → Nat) (ρ : List Int) (a i x : Int), sv_BOk ρ q_m7.2.1 → (∀ f ∈ q_m7.2.2.1, sv_FQk q_Ks q_Q g ln kf ρ f) → sv_nth ρ 0 = some a → sv_nth ρ 1 = some i → sv_nth ρ 2 = some x → 0 ≤ a → 0 ≤ i → i < ln a → kf a = q_m7.1 → ∀ f ∈ q_m7.2.2.2, sv_FQk q_Ks q_Q (sv_put g a i x) ln kf ρ f := by
  intro g ln kf ρ a i x hb hf n0 n1 n2 p0 p1 p2 p3
  obtain ⟨hl, hb⟩ := hb
  obtain ⟨xb, r0, rfl, l0⟩ := sv_lens hl
  obtain ⟨xi, r1, rfl, l1⟩ := sv_lens l0
  obtain ⟨xy, r2, rfl, l2⟩ := sv_lens l1
  obtain ⟨xa, r3, rfl, l3⟩ := sv_lens l2
  obtain ⟨xx, r4, rfl, l4⟩ := sv_lens l3
  obtain ⟨xN, r5, rfl, l5⟩ := sv_lens l4
  obtain ⟨xlo, r6, rfl, l6⟩ := sv_lens l5
  obtain ⟨xhi, r7, rfl, l7⟩ := sv_lens l6
  obtain ⟨xl, r8, rfl, l8⟩ := sv_lens l7
  obtain ⟨xu, r9, rfl, l9⟩ := sv_lens l8
  obtain rfl := sv_len0 l9
  clear l0 l1 l2 l3 l4 l5 l6 l7 l8 l9 hl
  have bb : 0 ≤ xb := (hb 0 _ _ rfl rfl).1
  have ba : 0 ≤ xa := (hb 3 _ _ rfl rfl).1
  clear hb
  obtain rfl : xb = a := by simpa [sv_nth] using n0
  obtain rfl : xi = i := by simpa [sv_nth] using n1
  obtain rfl : xy = x := by simpa [sv_nth] using n2
  clear n0 n1 n2
  have p3 : kf xb = 66 := p3
  have h0 := hf _ (List.mem_of_getElem? (i := 0) rfl)
  simp [sv_FQk, sv_FQ, sv_evs, sv_ev, sv_evT, sv_nth, sv_adq, sv_gs, q_Ks_3, q_Q_3] at h0
  have h1 := hf _ (List.mem_of_getElem? (i := 1) rfl)
  simp [sv_FQk, sv_FQ, sv_evs, sv_ev, sv_evT, sv_nth, sv_adq, sv_gs] at h1
  have h2 := hf _ (List.mem_of_getElem? (i := 2) rfl)
  simp [sv_FQk, sv_FQ, sv_evs, sv_ev, sv_evT, sv_nth, sv_adq, sv_gs] at h2
  have h3 := hf _ (List.mem_of_getElem? (i := 3) rfl)
  simp [sv_FQk, sv_FQ, sv_evs, sv_ev, sv_evT, sv_nth, sv_adq, sv_gs] at h3
  have h4 := hf _ (List.mem_of_getElem? (i := 4) rfl)
  simp [sv_FQk, sv_FQ, sv_evs, sv_ev, sv_evT, sv_nth, sv_adq, sv_gs] at h4
  have h5 := hf _ (List.mem_of_getElem? (i := 5) rfl)
  simp [sv_FQk, sv_FQ, sv_evs, sv_ev, sv_evT, sv_nth, sv_adq, sv_gs] at h5
  have h6 := hf _ (List.mem_of_getElem? (i := 6) rfl)
  simp [sv_FQk, sv_FQ, sv_evs, sv_ev, sv_evT, sv_nth, sv_adq, sv_gs] at h6
  have h7 := hf _ (List.mem_of_getElem? (i := 7) rfl)
  simp [sv_FQk, sv_FQ, sv_evs, sv_ev, sv_evT, sv_nth, sv_adq, sv_gs] at h7
  have h8 := hf _ (List.mem_of_getElem? (i := 8) rfl)
  simp [sv_FQk, sv_FQ, sv_evs, sv_ev, sv_evT, sv_nth, sv_adq, sv_gs] at h8
  clear hf
  obtain ⟨⟨⟨-, Ka⟩, ⟨-, Kb⟩⟩, h0⟩ := h0
  rw [sv_Qlin2_iff] at h0
  replace h1 := h1 ba (by omega) (by have := h2 ba; omega)
  have ea : sv_put g xb xi xy xa = g xa := sv_put_ne (sv_kf_ne Ka p3 (by decide))
  intro f hf
  have hf : f ∈ [(19, [], [(0, [(3, 1)]), (0, [(0, 1)]), (0, [(6, 1)]), (1, [(7, 1)]), (0, [(8, 1)]), (0, [(9, 1)])])] := hf
  simp only [List.mem_cons, List.not_mem_nil, or_false] at hf
  subst hf
  · simp [sv_FQk, sv_FQ, sv_evs, sv_ev, sv_evT, sv_nth, sv_adq, sv_gs, q_Ks_3, q_Q_3]
    refine ⟨⟨⟨ba, Ka⟩, ⟨bb, Kb⟩⟩, ?_⟩
    rw [sv_Qlin2_iff]
    simp only [sv_put_eq, ea]
    intro j j1 j2
    by_cases e : j = xi
    · rw [if_pos e, e, h1]
      omega
    · rw [if_neg e]
      exact h0 j j1 (by omega)
-- nm_o1
def q_m8 : Nat × SvM := (65, ([(0, none), (-1180591620717411303424, none), (-1180591620717411303424, none), (0, none), (-1180591620717411303424, none), (-1180591620717411303424, none), (-1180591620717411303424, none), (-1180591620717411303424, none)], [(19, [], [(0, [(0, 1)]), (0, [(3, 1)]), (0, [(4, 1)]), (0, [(5, 1)]), (0, [(6, 1)]), (0, [(7, 1)])]), (0, [], [(0, [(1, 1), (5, -1)])])], [(19, [], [(0, [(0, 1)]), (0, [(3, 1)]), (0, [(4, 1)]), (0, [(5, 1)]), (0, [(6, 1)]), (0, [(7, 1)])])]))
theorem q_m8_ok : ∀ (g : Int → Int → Int) (ln : Int → Int) (kf : Int → Nat) (ρ : List Int) (a i x : Int), sv_BOk ρ q_m8.2.1 → (∀ f ∈ q_m8.2.2.1, sv_FQk q_Ks q_Q g ln kf ρ f) → sv_nth ρ 0 = some a → sv_nth ρ 1 = some i → sv_nth ρ 2 = some x → 0 ≤ a → 0 ≤ i → i < ln a → kf a = q_m8.1 → ∀ f ∈ q_m8.2.2.2, sv_FQk q_Ks q_Q (sv_put g a i x) ln kf ρ f := by
  intro g ln kf ρ a i x hb hf n0 n1 n2 p0 p1 p2 p3
  obtain ⟨hl, hb⟩ := hb
  obtain ⟨xa, r0, rfl, l0⟩ := sv_lens hl
  obtain ⟨xi, r1, rfl, l1⟩ := sv_lens l0
  obtain ⟨xx, r2, rfl, l2⟩ := sv_lens l1
  obtain ⟨xb, r3, rfl, l3⟩ := sv_lens l2
  obtain ⟨xlo, r4, rfl, l4⟩ := sv_lens l3
  obtain ⟨xhi, r5, rfl, l5⟩ := sv_lens l4
  obtain ⟨xl, r6, rfl, l6⟩ := sv_lens l5
  obtain ⟨xu, r7, rfl, l7⟩ := sv_lens l6
  obtain rfl := sv_len0 l7
  clear l0 l1 l2 l3 l4 l5 l6 l7 hl
  have ba : 0 ≤ xa := (hb 0 _ _ rfl rfl).1
  have bb : 0 ≤ xb := (hb 3 _ _ rfl rfl).1
  clear hb
  obtain rfl : xa = a := by simpa [sv_nth] using n0
  obtain rfl : xi = i := by simpa [sv_nth] using n1
  obtain rfl : xx = x := by simpa [sv_nth] using n2
  clear n0 n1 n2
  have p3 : kf xa = 65 := p3
  have h0 := hf _ (List.mem_of_getElem? (i := 0) rfl)
  simp [sv_FQk, sv_FQ, sv_evs, sv_ev, sv_evT, sv_nth, sv_adq, sv_gs, q_Ks_3, q_Q_3] at h0
  have h1 := hf _ (List.mem_of_getElem? (i := 1) rfl)
  simp [sv_FQk, sv_FQ, sv_evs, sv_ev, sv_evT, sv_nth, sv_adq, sv_gs] at h1
  clear hf
  obtain ⟨⟨⟨-, Ka⟩, ⟨-, Kb⟩⟩, h0⟩ := h0
  rw [sv_Qlin2_iff] at h0
  have eb : sv_put g xa xi xx xb = g xb := sv_put_ne (sv_kf_ne Kb p3 (by decide))
  intro f hf
  have hf : f ∈ [(19, [], [(0, [(0, 1)]), (0, [(3, 1)]), (0, [(4, 1)]), (0, [(5, 1)]), (0, [(6, 1)]), (0, [(7, 1)])])] := hf
  simp only [List.mem_cons, List.not_mem_nil, or_false] at hf
  subst hf
  · simp [sv_FQk, sv_FQ, sv_evs, sv_ev, sv_evT, sv_nth, sv_adq, sv_gs, q_Ks_3, q_Q_3]
    refine ⟨⟨⟨ba, Ka⟩, ⟨bb, Kb⟩⟩, ?_⟩
    rw [sv_Qlin2_iff]
    simp only [sv_put_eq, eb]
    intro j j1 j2
    rw [if_neg (by omega)]
    exact h0 j j1 j2
