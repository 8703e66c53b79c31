-- ===== laws of opaque facts =====
-- sn_ans
def q_m99 : Nat × SvM := (78, ([(0, none), (-1180591620717411303424, none), (-1180591620717411303424, none), (0, none), (0, none), (0, none), (0, none), (-1180591620717411303424, none), (-1180591620717411303424, none), (-1180591620717411303424, none), (-1180591620717411303424, none), (-1180591620717411303424, none), (-1180591620717411303424, none), (-1180591620717411303424, none), (-1180591620717411303424, none), (-1180591620717411303424, none), (-1180591620717411303424, none), (-1180591620717411303424, none)], [(53, [], [(0, [(3, 1)]), (0, [(4, 1)]), (0, [(5, 1)]), (0, [(6, 1)]), (0, [(0, 1)]), (0, [(7, 1)])]), (4, [75, 1], [(0, [(4, 1)]), (0, [(1, 1)]), (0, [(10, 1)])]), (2, [], [(0, [(4, 1)]), (0, [(11, 1)])]), (0, [], [(-1, [(1, -1), (11, 1)])]), (4, [76, 1], [(0, [(5, 1)]), (0, [(1, 1)]), (0, [(12, 1)])]), (2, [], [(0, [(5, 1)]), (0, [(13, 1)])]), (0, [], [(-1, [(1, -1), (13, 1)])]), (4, [77, 1], [(0, [(6, 1)]), (0, [(1, 1)]), (0, [(14, 1)])]), (2, [], [(0, [(6, 1)]), (0, [(15, 1)])]), (0, [], [(-1, [(1, -1), (15, 1)])]), (4, [78, 1], [(0, [(0, 1)]), (0, [(1, 1)]), (0, [(16, 1)])]), (2, [], [(0, [(0, 1)]), (0, [(17, 1)])]), (0, [], [(-1, [(1, -1), (17, 1)])]), (0, [], [(1, [(2, -1), (16, 1)])]), (0, [], [(-1, [(2, 1), (16, -1)])]), (0, [], [(0, [(1, 1)])]), (0, [], [(0, [(1, 1), (7, -1)])]), (0, [], [(0, [(1, -1), (7, 1)])]), (4, [97, 1], [(0, [(3, 1)]), (0, [(1, 150), (10, 1), (12, 1), (14, 1), (16, 1)]), (0, [(8, 1)])]), (2, [], [(0, [(3, 1)]), (0, [(9, 1)])]), (0, [], [(-1, [(1, -150), (9, 1), (10, -1), (12, -1), (14, -1), (16, -1)])]), (0, [], [(0, [(10, 1), (12, 1), (14, 1), (16, 1)])]), (0, [], [(-1, [(8, -1)])]), (0, [], [(1, [(8, 1)])])], [(53, [], [(0, [(3, 1)]), (0, [(4, 1)]), (0, [(5, 1)]), (0, [(6, 1)]), (0, [(0, 1)]), (0, [(7, 1)])])]))
theorem q_m99_ok : ∀ (g : Int → Int → Int) (ln : Int → Int) (kf : Int → Nat) (ρ : List Int) (a i x : Int), sv_BOk ρ q_m99.2.1 → (∀ f ∈ q_m99.2.2.1, sv_FQk q_Ks q_Q g ln kf ρ f) → sv_nth ρ 0 = some a → sv_nth ρ 1 = some i → sv_nth ρ 2 = some x → 0 ≤ a → 0 ≤ i → i < ln a → kf a = q_m99.1 → ∀ f ∈ q_m99.2.2.2, sv_FQk q_Ks q_Q (sv_put g a i x) ln kf ρ f := by
  intro g ln kf ρ a i x hb hf n0 n1 n2 p0 p1 p2 p3
  obtain ⟨hl, hb⟩ := hb
  obtain ⟨xns, r0, rfl, l0⟩ := sv_lens hl
  obtain ⟨xi, r1, rfl, l1⟩ := sv_lens l0
  obtain ⟨xx, r2, rfl, l2⟩ := sv_lens l1
  obtain ⟨xso, r3, rfl, l3⟩ := sv_lens l2
  obtain ⟨xlv, r4, rfl, l4⟩ := sv_lens l3
  obtain ⟨xlo, r5, rfl, l5⟩ := sv_lens l4
  obtain ⟨xcu, r6, rfl, l6⟩ := sv_lens l5
  obtain ⟨xt, r7, rfl, l7⟩ := sv_lens l6
  obtain ⟨xg, r8, rfl, l8⟩ := sv_lens l7
  obtain ⟨xN, r9, rfl, l9⟩ := sv_lens l8
  obtain ⟨xy1, r10, rfl, l10⟩ := sv_lens l9
  obtain ⟨xM1, r11, rfl, l11⟩ := sv_lens l10
  obtain ⟨xy2, r12, rfl, l12⟩ := sv_lens l11
  obtain ⟨xM2, r13, rfl, l13⟩ := sv_lens l12
  obtain ⟨xy3, r14, rfl, l14⟩ := sv_lens l13
  obtain ⟨xM3, r15, rfl, l15⟩ := sv_lens l14
  obtain ⟨xy4, r16, rfl, l16⟩ := sv_lens l15
  obtain ⟨xM4, r17, rfl, l17⟩ := sv_lens l16
  obtain rfl := sv_len0 l17
  clear l0 l1 l2 l3 l4 l5 l6 l7 l8 l9 l10 l11 l12 l13 l14 l15 l16 l17 hl
  have bns : 0 ≤ xns := (hb 0 _ _ rfl rfl).1
  have bso : 0 ≤ xso := (hb 3 _ _ rfl rfl).1
  have blv : 0 ≤ xlv := (hb 4 _ _ rfl rfl).1
  have blo : 0 ≤ xlo := (hb 5 _ _ rfl rfl).1
  have bcu : 0 ≤ xcu := (hb 6 _ _ rfl rfl).1
  clear hb
  obtain rfl : xns = a := by simpa [sv_nth] using n0
  obtain rfl : xi = i := by simpa [sv_nth] using n1
  obtain rfl : xx = x := by simpa [sv_nth] using n2
  clear n0 n1 n2
  have p3 : kf xns = 78 := p3
  have h0 := hf _ (List.mem_of_getElem? (i := 0) rfl)
  simp [sv_FQk, sv_FQ, sv_evs, sv_ev, sv_evT, sv_nth, sv_adq, sv_gs, q_Ks_37, q_Q_37] at h0
  have h1 := hf _ (List.mem_of_getElem? (i := 1) rfl)
  simp [sv_FQk, sv_FQ, sv_evs, sv_ev, sv_evT, sv_nth, sv_adq, sv_gs] at h1
  have h2 := hf _ (List.mem_of_getElem? (i := 2) rfl)
  simp [sv_FQk, sv_FQ, sv_evs, sv_ev, sv_evT, sv_nth, sv_adq, sv_gs] at h2
  have h3 := hf _ (List.mem_of_getElem? (i := 3) rfl)
  simp [sv_FQk, sv_FQ, sv_evs, sv_ev, sv_evT, sv_nth, sv_adq, sv_gs] at h3
  have h4 := hf _ (List.mem_of_getElem? (i := 4) rfl)
  simp [sv_FQk, sv_FQ, sv_evs, sv_ev, sv_evT, sv_nth, sv_adq, sv_gs] at h4
  have h5 := hf _ (List.mem_of_getElem? (i := 5) rfl)
  simp [sv_FQk, sv_FQ, sv_evs, sv_ev, sv_evT, sv_nth, sv_adq, sv_gs] at h5
  have h6 := hf _ (List.mem_of_getElem? (i := 6) rfl)
  simp [sv_FQk, sv_FQ, sv_evs, sv_ev, sv_evT, sv_nth, sv_adq, sv_gs] at h6
  have h7 := hf _ (List.mem_of_getElem? (i := 7) rfl)
  simp [sv_FQk, sv_FQ, sv_evs, sv_ev, sv_evT, sv_nth, sv_adq, sv_gs] at h7
  have h8 := hf _ (List.mem_of_getElem? (i := 8) rfl)
  simp [sv_FQk, sv_FQ, sv_evs, sv_ev, sv_evT, sv_nth, sv_adq, sv_gs] at h8
  have h9 := hf _ (List.mem_of_getElem? (i := 9) rfl)
  simp [sv_FQk, sv_FQ, sv_evs, sv_ev, sv_evT, sv_nth, sv_adq, sv_gs] at h9
  have h10 := hf _ (List.mem_of_getElem? (i := 10) rfl)
  simp [sv_FQk, sv_FQ, sv_evs, sv_ev, sv_evT, sv_nth, sv_adq, sv_gs] at h10
  have h11 := hf _ (List.mem_of_getElem? (i := 11) rfl)
  simp [sv_FQk, sv_FQ, sv_evs, sv_ev, sv_evT, sv_nth, sv_adq, sv_gs] at h11
  have h12 := hf _ (List.mem_of_getElem? (i := 12) rfl)
  simp [sv_FQk, sv_FQ, sv_evs, sv_ev, sv_evT, sv_nth, sv_adq, sv_gs] at h12
  have h13 := hf _ (List.mem_of_getElem? (i := 13) rfl)
  simp [sv_FQk, sv_FQ, sv_evs, sv_ev, sv_evT, sv_nth, sv_adq, sv_gs] at h13
  have h14 := hf _ (List.mem_of_getElem? (i := 14) rfl)
  simp [sv_FQk, sv_FQ, sv_evs, sv_ev, sv_evT, sv_nth, sv_adq, sv_gs] at h14
  have h15 := hf _ (List.mem_of_getElem? (i := 15) rfl)
  simp [sv_FQk, sv_FQ, sv_evs, sv_ev, sv_evT, sv_nth, sv_adq, sv_gs] at h15
  have h16 := hf _ (List.mem_of_getElem? (i := 16) rfl)
  simp [sv_FQk, sv_FQ, sv_evs, sv_ev, sv_evT, sv_nth, sv_adq, sv_gs] at h16
  have h17 := hf _ (List.mem_of_getElem? (i := 17) rfl)
  simp [sv_FQk, sv_FQ, sv_evs, sv_ev, sv_evT, sv_nth, sv_adq, sv_gs] at h17
  have h18 := hf _ (List.mem_of_getElem? (i := 18) rfl)
  simp [sv_FQk, sv_FQ, sv_evs, sv_ev, sv_evT, sv_nth, sv_adq, sv_gs] at h18
  have h19 := hf _ (List.mem_of_getElem? (i := 19) rfl)
  simp [sv_FQk, sv_FQ, sv_evs, sv_ev, sv_evT, sv_nth, sv_adq, sv_gs] at h19
  have h20 := hf _ (List.mem_of_getElem? (i := 20) rfl)
  simp [sv_FQk, sv_FQ, sv_evs, sv_ev, sv_evT, sv_nth, sv_adq, sv_gs] at h20
  have h21 := hf _ (List.mem_of_getElem? (i := 21) rfl)
  simp [sv_FQk, sv_FQ, sv_evs, sv_ev, sv_evT, sv_nth, sv_adq, sv_gs] at h21
  have h22 := hf _ (List.mem_of_getElem? (i := 22) rfl)
  simp [sv_FQk, sv_FQ, sv_evs, sv_ev, sv_evT, sv_nth, sv_adq, sv_gs] at h22
  have h23 := hf _ (List.mem_of_getElem? (i := 23) rfl)
  simp [sv_FQk, sv_FQ, sv_evs, sv_ev, sv_evT, sv_nth, sv_adq, sv_gs] at h23
  clear hf
  obtain ⟨⟨⟨-, Kso⟩, ⟨-, Klv⟩, ⟨-, Klo⟩, ⟨-, Kcu⟩, ⟨-, Kns⟩⟩, h0⟩ := h0
  rw [sv_Qsn_iff] at h0
  replace h1 := h1 blv (by omega) (by have := h2 blv; omega)
  replace h4 := h4 blo (by omega) (by have := h5 blo; omega)
  replace h7 := h7 bcu (by omega) (by have := h8 bcu; omega)
  replace h10 := h10 bns (by omega) (by have := h11 bns; omega)
  replace h18 := h18 bso (by omega) (by have := h19 bso; omega)
  have eso : sv_put g xns xi xx xso = g xso := sv_put_ne (sv_kf_ne Kso p3 (by decide))
  have elv : sv_put g xns xi xx xlv = g xlv := sv_put_ne (sv_kf_ne Klv p3 (by decide))
  have elo : sv_put g xns xi xx xlo = g xlo := sv_put_ne (sv_kf_ne Klo p3 (by decide))
  have ecu : sv_put g xns xi xx xcu = g xcu := sv_put_ne (sv_kf_ne Kcu p3 (by decide))
  intro f hf
  have hf : f ∈ [(53, [], [(0, [(3, 1)]), (0, [(4, 1)]), (0, [(5, 1)]), (0, [(6, 1)]), (0, [(0, 1)]), (0, [(7, 1)])])] := hf
  simp only [List.mem_cons, List.not_mem_nil, or_false] at hf
  subst hf
  · simp [sv_FQk, sv_FQ, sv_evs, sv_ev, sv_evT, sv_nth, sv_adq, sv_gs, q_Ks_37, q_Q_37]
    refine ⟨⟨⟨bso, Kso⟩, ⟨blv, Klv⟩, ⟨blo, Klo⟩, ⟨bcu, Kcu⟩, ⟨bns, Kns⟩⟩, ?_⟩
    rw [sv_Qsn_iff]
    simp only [sv_put_eq, eso, elv, elo, ecu]
    have et : xt = xi := by omega
    rw [et] at h0 ⊢
    intro k k1 k2
    rw [if_pos rfl] at k2
    by_cases e : k = xy1 + xy2 + xy3 + xy4
    · have u : g xso (150 * xi + k) = xg := sv_fat (by omega) h18
      omega
    · exact h0 k k1 (by omega)
-- os_sot
def q_m100 : Nat × SvM := (109, ([(0, none), (-1180591620717411303424, none), (-1180591620717411303424, none), (0, none), (0, none), (0, none), (0, none), (0, none), (0, none), (0, none), (-1180591620717411303424, none), (-1180591620717411303424, none)], [(54, [], [(0, [(0, 1)]), (0, [(3, 1)]), (0, [(4, 1)]), (0, [(5, 1)]), (0, [(6, 1)]), (0, [(7, 1)]), (0, [(8, 1)]), (0, [(9, 1)]), (0, [(10, 1)]), (0, [(11, 1)])]), (0, [], [(0, [(1, 1), (10, -1)])])], [(54, [], [(0, [(0, 1)]), (0, [(3, 1)]), (0, [(4, 1)]), (0, [(5, 1)]), (0, [(6, 1)]), (0, [(7, 1)]), (0, [(8, 1)]), (0, [(9, 1)]), (0, [(10, 1)]), (0, [(11, 1)])])]))
theorem q_m100_ok : ∀ (g : Int → Int → Int) (ln : Int → Int) (kf : Int → Nat) (ρ : List Int) (a i x : Int), sv_BOk ρ q_m100.2.1 → (∀ f ∈ q_m100.2.2.1, sv_FQk q_Ks q_Q g ln kf ρ f) → sv_nth ρ 0 = some a → sv_nth ρ 1 = some i → sv_nth ρ 2 = some x → 0 ≤ a → 0 ≤ i → i < ln a → kf a = q_m100.1 → ∀ f ∈ q_m100.2.2.2, sv_FQk q_Ks q_Q (sv_put g a i x) ln kf ρ f := by
  intro g ln kf ρ a i x hb hf n0 n1 n2 p0 p1 p2 p3
  obtain ⟨hl, hb⟩ := hb
  obtain ⟨xot, r0, rfl, l0⟩ := sv_lens hl
  obtain ⟨xi, r1, rfl, l1⟩ := sv_lens l0
  obtain ⟨xx, r2, rfl, l2⟩ := sv_lens l1
  obtain ⟨xof, r3, rfl, l3⟩ := sv_lens l2
  obtain ⟨xoz, r4, rfl, l4⟩ := sv_lens l3
  obtain ⟨xen, r5, rfl, l5⟩ := sv_lens l4
  obtain ⟨xlv, r6, rfl, l6⟩ := sv_lens l5
  obtain ⟨xlo, r7, rfl, l7⟩ := sv_lens l6
  obtain ⟨xcu, r8, rfl, l8⟩ := sv_lens l7
  obtain ⟨xns, r9, rfl, l9⟩ := sv_lens l8
  obtain ⟨xn, r10, rfl, l10⟩ := sv_lens l9
  obtain ⟨xtr, r11, rfl, l11⟩ := sv_lens l10
  obtain rfl := sv_len0 l11
  clear l0 l1 l2 l3 l4 l5 l6 l7 l8 l9 l10 l11 hl
  have bot : 0 ≤ xot := (hb 0 _ _ rfl rfl).1
  have bof : 0 ≤ xof := (hb 3 _ _ rfl rfl).1
  have boz : 0 ≤ xoz := (hb 4 _ _ rfl rfl).1
  have ben : 0 ≤ xen := (hb 5 _ _ rfl rfl).1
  have blv : 0 ≤ xlv := (hb 6 _ _ rfl rfl).1
  have blo : 0 ≤ xlo := (hb 7 _ _ rfl rfl).1
  have bcu : 0 ≤ xcu := (hb 8 _ _ rfl rfl).1
  have bns : 0 ≤ xns := (hb 9 _ _ rfl rfl).1
  clear hb
  obtain rfl : xot = a := by simpa [sv_nth] using n0
  obtain rfl : xi = i := by simpa [sv_nth] using n1
  obtain rfl : xx = x := by simpa [sv_nth] using n2
  clear n0 n1 n2
  have p3 : kf xot = 109 := p3
  have h0 := hf _ (List.mem_of_getElem? (i := 0) rfl)
  simp [sv_FQk, sv_FQ, sv_evs, sv_ev, sv_evT, sv_nth, sv_adq, sv_gs, q_Ks_38, q_Q_38] at h0
  have h1 := hf _ (List.mem_of_getElem? (i := 1) rfl)
  simp [sv_FQk, sv_FQ, sv_evs, sv_ev, sv_evT, sv_nth, sv_adq, sv_gs] at h1
  clear hf
  obtain ⟨⟨⟨-, Kot⟩, ⟨-, Kof⟩, ⟨-, Koz⟩, ⟨-, Ken⟩, ⟨-, Klv⟩, ⟨-, Klo⟩, ⟨-, Kcu⟩, ⟨-, Kns⟩⟩, h0⟩ := h0
  rw [sv_Qos_iff] at h0
  have eof : sv_put g xot xi xx xof = g xof := sv_put_ne (sv_kf_ne Kof p3 (by decide))
  have eoz : sv_put g xot xi xx xoz = g xoz := sv_put_ne (sv_kf_ne Koz p3 (by decide))
  have een : sv_put g xot xi xx xen = g xen := sv_put_ne (sv_kf_ne Ken p3 (by decide))
  have elv : sv_put g xot xi xx xlv = g xlv := sv_put_ne (sv_kf_ne Klv p3 (by decide))
  have elo : sv_put g xot xi xx xlo = g xlo := sv_put_ne (sv_kf_ne Klo p3 (by decide))
  have ecu : sv_put g xot xi xx xcu = g xcu := sv_put_ne (sv_kf_ne Kcu p3 (by decide))
  have ens : sv_put g xot xi xx xns = g xns := sv_put_ne (sv_kf_ne Kns p3 (by decide))
  intro f hf
  have hf : f ∈ [(54, [], [(0, [(0, 1)]), (0, [(3, 1)]), (0, [(4, 1)]), (0, [(5, 1)]), (0, [(6, 1)]), (0, [(7, 1)]), (0, [(8, 1)]), (0, [(9, 1)]), (0, [(10, 1)]), (0, [(11, 1)])])] := hf
  simp only [List.mem_cons, List.not_mem_nil, or_false] at hf
  subst hf
  · simp [sv_FQk, sv_FQ, sv_evs, sv_ev, sv_evT, sv_nth, sv_adq, sv_gs, q_Ks_38, q_Q_38]
    refine ⟨⟨⟨bot, Kot⟩, ⟨bof, Kof⟩, ⟨boz, Koz⟩, ⟨ben, Ken⟩, ⟨blv, Klv⟩, ⟨blo, Klo⟩, ⟨bcu, Kcu⟩, ⟨bns, Kns⟩⟩, ?_⟩
    rw [sv_Qos_iff]
    simp only [sv_put_eq, eof, eoz, een, elv, elo, ecu, ens]
    intro o o1 o2
    rw [if_neg (by omega)]
    exact h0 o o1 o2
-- os_sof
def q_m101 : Nat × SvM := (110, ([(0, none), (-1180591620717411303424, none), (-1180591620717411303424, none), (0, none), (0, none), (0, none), (0, none), (0, none), (0, none), (0, none), (-1180591620717411303424, none), (-1180591620717411303424, none)], [(54, [], [(0, [(3, 1)]), (0, [(0, 1)]), (0, [(4, 1)]), (0, [(5, 1)]), (0, [(6, 1)]), (0, [(7, 1)]), (0, [(8, 1)]), (0, [(9, 1)]), (0, [(10, 1)]), (0, [(11, 1)])]), (0, [], [(0, [(1, 1), (10, -1)])])], [(54, [], [(0, [(3, 1)]), (0, [(0, 1)]), (0, [(4, 1)]), (0, [(5, 1)]), (0, [(6, 1)]), (0, [(7, 1)]), (0, [(8, 1)]), (0, [(9, 1)]), (0, [(10, 1)]), (0, [(11, 1)])])]))
theorem q_m101_ok : ∀ (g : Int → Int → Int) (ln : Int → Int) (kf : Int → Nat) (ρ : List Int) (a i x : Int), sv_BOk ρ q_m101.2.1 → (∀ f ∈ q_m101.2.2.1, sv_FQk q_Ks q_Q g ln kf ρ f) → sv_nth ρ 0 = some a → sv_nth ρ 1 = some i → sv_nth ρ 2 = some x → 0 ≤ a → 0 ≤ i → i < ln a → kf a = q_m101.1 → ∀ f ∈ q_m101.2.2.2, sv_FQk q_Ks q_Q (sv_put g a i x) ln kf ρ f := by
  intro g ln kf ρ a i x hb hf n0 n1 n2 p0 p1 p2 p3
  obtain ⟨hl, hb⟩ := hb
  obtain ⟨xof, r0, rfl, l0⟩ := sv_lens hl
  obtain ⟨xi, r1, rfl, l1⟩ := sv_lens l0
  obtain ⟨xx, r2, rfl, l2⟩ := sv_lens l1
  obtain ⟨xot, r3, rfl, l3⟩ := sv_lens l2
  obtain ⟨xoz, r4, rfl, l4⟩ := sv_lens l3
  obtain ⟨xen, r5, rfl, l5⟩ := sv_lens l4
  obtain ⟨xlv, r6, rfl, l6⟩ := sv_lens l5
  obtain ⟨xlo, r7, rfl, l7⟩ := sv_lens l6
  obtain ⟨xcu, r8, rfl, l8⟩ := sv_lens l7
  obtain ⟨xns, r9, rfl, l9⟩ := sv_lens l8
  obtain ⟨xn, r10, rfl, l10⟩ := sv_lens l9
  obtain ⟨xtr, r11, rfl, l11⟩ := sv_lens l10
  obtain rfl := sv_len0 l11
  clear l0 l1 l2 l3 l4 l5 l6 l7 l8 l9 l10 l11 hl
  have bof : 0 ≤ xof := (hb 0 _ _ rfl rfl).1
  have bot : 0 ≤ xot := (hb 3 _ _ rfl rfl).1
  have boz : 0 ≤ xoz := (hb 4 _ _ rfl rfl).1
  have ben : 0 ≤ xen := (hb 5 _ _ rfl rfl).1
  have blv : 0 ≤ xlv := (hb 6 _ _ rfl rfl).1
  have blo : 0 ≤ xlo := (hb 7 _ _ rfl rfl).1
  have bcu : 0 ≤ xcu := (hb 8 _ _ rfl rfl).1
  have bns : 0 ≤ xns := (hb 9 _ _ rfl rfl).1
  clear hb
  obtain rfl : xof = a := by simpa [sv_nth] using n0
  obtain rfl : xi = i := by simpa [sv_nth] using n1
  obtain rfl : xx = x := by simpa [sv_nth] using n2
  clear n0 n1 n2
  have p3 : kf xof = 110 := p3
  have h0 := hf _ (List.mem_of_getElem? (i := 0) rfl)
  simp [sv_FQk, sv_FQ, sv_evs, sv_ev, sv_evT, sv_nth, sv_adq, sv_gs, q_Ks_38, q_Q_38] at h0
  have h1 := hf _ (List.mem_of_getElem? (i := 1) rfl)
  simp [sv_FQk, sv_FQ, sv_evs, sv_ev, sv_evT, sv_nth, sv_adq, sv_gs] at h1
  clear hf
  obtain ⟨⟨⟨-, Kot⟩, ⟨-, Kof⟩, ⟨-, Koz⟩, ⟨-, Ken⟩, ⟨-, Klv⟩, ⟨-, Klo⟩, ⟨-, Kcu⟩, ⟨-, Kns⟩⟩, h0⟩ := h0
  rw [sv_Qos_iff] at h0
  have eot : sv_put g xof xi xx xot = g xot := sv_put_ne (sv_kf_ne Kot p3 (by decide))
  have eoz : sv_put g xof xi xx xoz = g xoz := sv_put_ne (sv_kf_ne Koz p3 (by decide))
  have een : sv_put g xof xi xx xen = g xen := sv_put_ne (sv_kf_ne Ken p3 (by decide))
  have elv : sv_put g xof xi xx xlv = g xlv := sv_put_ne (sv_kf_ne Klv p3 (by decide))
  have elo : sv_put g xof xi xx xlo = g xlo := sv_put_ne (sv_kf_ne Klo p3 (by decide))
  have ecu : sv_put g xof xi xx xcu = g xcu := sv_put_ne (sv_kf_ne Kcu p3 (by decide))
  have ens : sv_put g xof xi xx xns = g xns := sv_put_ne (sv_kf_ne Kns p3 (by decide))
  intro f hf
  have hf : f ∈ [(54, [], [(0, [(3, 1)]), (0, [(0, 1)]), (0, [(4, 1)]), (0, [(5, 1)]), (0, [(6, 1)]), (0, [(7, 1)]), (0, [(8, 1)]), (0, [(9, 1)]), (0, [(10, 1)]), (0, [(11, 1)])])] := hf
  simp only [List.mem_cons, List.not_mem_nil, or_false] at hf
  subst hf
  · simp [sv_FQk, sv_FQ, sv_evs, sv_ev, sv_evT, sv_nth, sv_adq, sv_gs, q_Ks_38, q_Q_38]
    refine ⟨⟨⟨bot, Kot⟩, ⟨bof, Kof⟩, ⟨boz, Koz⟩, ⟨ben, Ken⟩, ⟨blv, Klv⟩, ⟨blo, Klo⟩, ⟨bcu, Kcu⟩, ⟨bns, Kns⟩⟩, ?_⟩
    rw [sv_Qos_iff]
    simp only [sv_put_eq, eot, eoz, een, elv, elo, ecu, ens]
    intro o o1 o2
    rw [if_neg (by omega)]
    exact h0 o o1 o2
-- os_soz
def q_m102 : Nat × SvM := (111, ([(0, none), (-1180591620717411303424, none), (-1180591620717411303424, none), (0, none), (0, none), (0, none), (0, none), (0, none), (0, none), (0, none), (-1180591620717411303424, none), (-1180591620717411303424, none)], [(54, [], [(0, [(3, 1)]), (0, [(4, 1)]), (0, [(0, 1)]), (0, [(5, 1)]), (0, [(6, 1)]), (0, [(7, 1)]), (0, [(8, 1)]), (0, [(9, 1)]), (0, [(10, 1)]), (0, [(11, 1)])]), (0, [], [(0, [(1, 1), (10, -1)])])], [(54, [], [(0, [(3, 1)]), (0, [(4, 1)]), (0, [(0, 1)]), (0, [(5, 1)]), (0, [(6, 1)]), (0, [(7, 1)]), (0, [(8, 1)]), (0, [(9, 1)]), (0, [(10, 1)]), (0, [(11, 1)])])]))
theorem q_m102_ok : ∀ (g : Int → Int → Int) (ln : Int → Int) (kf : Int → Nat) (ρ : List Int) (a i x : Int), sv_BOk ρ q_m102.2.1 → (∀ f ∈ q_m102.2.2.1, sv_FQk q_Ks q_Q g ln kf ρ f) → sv_nth ρ 0 = some a → sv_nth ρ 1 = some i → sv_nth ρ 2 = some x → 0 ≤ a → 0 ≤ i → i < ln a → kf a = q_m102.1 → ∀ f ∈ q_m102.2.2.2, sv_FQk q_Ks q_Q (sv_put g a i x) ln kf ρ f := by
  intro g ln kf ρ a i x hb hf n0 n1 n2 p0 p1 p2 p3
  obtain ⟨hl, hb⟩ := hb
  obtain ⟨xoz, r0, rfl, l0⟩ := sv_lens hl
  obtain ⟨xi, r1, rfl, l1⟩ := sv_lens l0
  obtain ⟨xx, r2, rfl, l2⟩ := sv_lens l1
  obtain ⟨xot, r3, rfl, l3⟩ := sv_lens l2
  obtain ⟨xof, r4, rfl, l4⟩ := sv_lens l3
  obtain ⟨xen, r5, rfl, l5⟩ := sv_lens l4
  obtain ⟨xlv, r6, rfl, l6⟩ := sv_lens l5
  obtain ⟨xlo, r7, rfl, l7⟩ := sv_lens l6
  obtain ⟨xcu, r8, rfl, l8⟩ := sv_lens l7
  obtain ⟨xns, r9, rfl, l9⟩ := sv_lens l8
  obtain ⟨xn, r10, rfl, l10⟩ := sv_lens l9
  obtain ⟨xtr, r11, rfl, l11⟩ := sv_lens l10
  obtain rfl := sv_len0 l11
  clear l0 l1 l2 l3 l4 l5 l6 l7 l8 l9 l10 l11 hl
  have boz : 0 ≤ xoz := (hb 0 _ _ rfl rfl).1
  have bot : 0 ≤ xot := (hb 3 _ _ rfl rfl).1
  have bof : 0 ≤ xof := (hb 4 _ _ rfl rfl).1
  have ben : 0 ≤ xen := (hb 5 _ _ rfl rfl).1
  have blv : 0 ≤ xlv := (hb 6 _ _ rfl rfl).1
  have blo : 0 ≤ xlo := (hb 7 _ _ rfl rfl).1
  have bcu : 0 ≤ xcu := (hb 8 _ _ rfl rfl).1
  have bns : 0 ≤ xns := (hb 9 _ _ rfl rfl).1
  clear hb
  obtain rfl : xoz = a := by simpa [sv_nth] using n0
  obtain rfl : xi = i := by simpa [sv_nth] using n1
  obtain rfl : xx = x := by simpa [sv_nth] using n2
  clear n0 n1 n2
  have p3 : kf xoz = 111 := p3
  have h0 := hf _ (List.mem_of_getElem? (i := 0) rfl)
  simp [sv_FQk, sv_FQ, sv_evs, sv_ev, sv_evT, sv_nth, sv_adq, sv_gs, q_Ks_38, q_Q_38] at h0
  have h1 := hf _ (List.mem_of_getElem? (i := 1) rfl)
  simp [sv_FQk, sv_FQ, sv_evs, sv_ev, sv_evT, sv_nth, sv_adq, sv_gs] at h1
  clear hf
  obtain ⟨⟨⟨-, Kot⟩, ⟨-, Kof⟩, ⟨-, Koz⟩, ⟨-, Ken⟩, ⟨-, Klv⟩, ⟨-, Klo⟩, ⟨-, Kcu⟩, ⟨-, Kns⟩⟩, h0⟩ := h0
  rw [sv_Qos_iff] at h0
  have eot : sv_put g xoz xi xx xot = g xot := sv_put_ne (sv_kf_ne Kot p3 (by decide))
  have eof : sv_put g xoz xi xx xof = g xof := sv_put_ne (sv_kf_ne Kof p3 (by decide))
  have een : sv_put g xoz xi xx xen = g xen := sv_put_ne (sv_kf_ne Ken p3 (by decide))
  have elv : sv_put g xoz xi xx xlv = g xlv := sv_put_ne (sv_kf_ne Klv p3 (by decide))
  have elo : sv_put g xoz xi xx xlo = g xlo := sv_put_ne (sv_kf_ne Klo p3 (by decide))
  have ecu : sv_put g xoz xi xx xcu = g xcu := sv_put_ne (sv_kf_ne Kcu p3 (by decide))
  have ens : sv_put g xoz xi xx xns = g xns := sv_put_ne (sv_kf_ne Kns p3 (by decide))
  intro f hf
  have hf : f ∈ [(54, [], [(0, [(3, 1)]), (0, [(4, 1)]), (0, [(0, 1)]), (0, [(5, 1)]), (0, [(6, 1)]), (0, [(7, 1)]), (0, [(8, 1)]), (0, [(9, 1)]), (0, [(10, 1)]), (0, [(11, 1)])])] := hf
  simp only [List.mem_cons, List.not_mem_nil, or_false] at hf
  subst hf
  · simp [sv_FQk, sv_FQ, sv_evs, sv_ev, sv_evT, sv_nth, sv_adq, sv_gs, q_Ks_38, q_Q_38]
    refine ⟨⟨⟨bot, Kot⟩, ⟨bof, Kof⟩, ⟨boz, Koz⟩, ⟨ben, Ken⟩, ⟨blv, Klv⟩, ⟨blo, Klo⟩, ⟨bcu, Kcu⟩, ⟨bns, Kns⟩⟩, ?_⟩
    rw [sv_Qos_iff]
    simp only [sv_put_eq, eot, eof, een, elv, elo, ecu, ens]
    intro o o1 o2
    rw [if_neg (by omega)]
    exact h0 o o1 o2
-- os_e0
def q_m103 : Nat × SvM := (84, ([(0, none), (-1180591620717411303424, none), (-1180591620717411303424, none), (0, none), (0, none), (0, none), (0, none), (0, none), (0, none), (0, none), (-1180591620717411303424, none), (-1180591620717411303424, none), (-1180591620717411303424, none), (-1180591620717411303424, none), (-1180591620717411303424, none), (-1180591620717411303424, none), (-1180591620717411303424, none), (-1180591620717411303424, none), (-1180591620717411303424, none), (-1180591620717411303424, none), (-1180591620717411303424, none)], [(54, [], [(0, [(3, 1)]), (0, [(4, 1)]), (0, [(5, 1)]), (0, [(0, 1)]), (0, [(6, 1)]), (0, [(7, 1)]), (0, [(8, 1)]), (0, [(9, 1)]), (0, [(10, 1)]), (0, [(11, 1)])]), (4, [75, 1], [(0, [(6, 1)]), (0, [(12, 1)]), (0, [(13, 1)])]), (2, [], [(0, [(6, 1)]), (0, [(14, 1)])]), (0, [], [(-1, [(12, -1), (14, 1)])]), (4, [76, 1], [(0, [(7, 1)]), (0, [(12, 1)]), (0, [(15, 1)])]), (2, [], [(0, [(7, 1)]), (0, [(16, 1)])]), (0, [], [(-1, [(12, -1), (16, 1)])]), (4, [77, 1], [(0, [(8, 1)]), (0, [(12, 1)]), (0, [(17, 1)])]), (2, [], [(0, [(8, 1)]), (0, [(18, 1)])]), (0, [], [(-1, [(12, -1), (18, 1)])]), (4, [78, 1], [(0, [(9, 1)]), (0, [(12, 1)]), (0, [(19, 1)])]), (2, [], [(0, [(9, 1)]), (0, [(20, 1)])]), (0, [], [(-1, [(12, -1), (20, 1)])]), (0, [], [(0, [(12, 1)])]), (0, [], [(0, [(1, 1), (12, -150)])]), (0, [], [(149, [(1, -1), (12, 150)])]), (0, [], [(0, [(1, 1), (12, -150), (13, -1), (15, -1), (17, -1), (19, -1)])])], [(54, [], [(0, [(3, 1)]), (0, [(4, 1)]), (0, [(5, 1)]), (0, [(0, 1)]), (0, [(6, 1)]), (0, [(7, 1)]), (0, [(8, 1)]), (0, [(9, 1)]), (0, [(10, 1)]), (0, [(11, 1)])])]))
theorem q_m103_ok : ∀ (g : Int → Int → Int) (ln : Int → Int) (kf : Int → Nat) (ρ : List Int) (a i x : Int), sv_BOk ρ q_m103.2.1 → (∀ f ∈ q_m103.2.2.1, sv_FQk q_Ks q_Q g ln kf ρ f) → sv_nth ρ 0 = some a → sv_nth ρ 1 = some i → sv_nth ρ 2 = some x → 0 ≤ a → 0 ≤ i → i < ln a → kf a = q_m103.1 → ∀ f ∈ q_m103.2.2.2, sv_FQk q_Ks q_Q (sv_put g a i x) ln kf ρ f := by
  intro g ln kf ρ a i x hb hf n0 n1 n2 p0 p1 p2 p3
  obtain ⟨hl, hb⟩ := hb
  obtain ⟨xen, r0, rfl, l0⟩ := sv_lens hl
  obtain ⟨xi, r1, rfl, l1⟩ := sv_lens l0
  obtain ⟨xx, r2, rfl, l2⟩ := sv_lens l1
  obtain ⟨xot, r3, rfl, l3⟩ := sv_lens l2
  obtain ⟨xof, r4, rfl, l4⟩ := sv_lens l3
  obtain ⟨xoz, r5, rfl, l5⟩ := sv_lens l4
  obtain ⟨xlv, r6, rfl, l6⟩ := sv_lens l5
  obtain ⟨xlo, r7, rfl, l7⟩ := sv_lens l6
  obtain ⟨xcu, r8, rfl, l8⟩ := sv_lens l7
  obtain ⟨xns, r9, rfl, l9⟩ := sv_lens l8
  obtain ⟨xn, r10, rfl, l10⟩ := sv_lens l9
  obtain ⟨xtr, r11, rfl, l11⟩ := sv_lens l10
  obtain ⟨xt, r12, rfl, l12⟩ := sv_lens l11
  obtain ⟨xy1, r13, rfl, l13⟩ := sv_lens l12
  obtain ⟨xM1, r14, rfl, l14⟩ := sv_lens l13
  obtain ⟨xy2, r15, rfl, l15⟩ := sv_lens l14
  obtain ⟨xM2, r16, rfl, l16⟩ := sv_lens l15
  obtain ⟨xy3, r17, rfl, l17⟩ := sv_lens l16
  obtain ⟨xM3, r18, rfl, l18⟩ := sv_lens l17
  obtain ⟨xy4, r19, rfl, l19⟩ := sv_lens l18
  obtain ⟨xM4, r20, rfl, l20⟩ := sv_lens l19
  obtain rfl := sv_len0 l20
  clear l0 l1 l2 l3 l4 l5 l6 l7 l8 l9 l10 l11 l12 l13 l14 l15 l16 l17 l18 l19 l20 hl
  have ben : 0 ≤ xen := (hb 0 _ _ rfl rfl).1
  have bot : 0 ≤ xot := (hb 3 _ _ rfl rfl).1
  have bof : 0 ≤ xof := (hb 4 _ _ rfl rfl).1
  have boz : 0 ≤ xoz := (hb 5 _ _ rfl rfl).1
  have blv : 0 ≤ xlv := (hb 6 _ _ rfl rfl).1
  have blo : 0 ≤ xlo := (hb 7 _ _ rfl rfl).1
  have bcu : 0 ≤ xcu := (hb 8 _ _ rfl rfl).1
  have bns : 0 ≤ xns := (hb 9 _ _ rfl rfl).1
  clear hb
  obtain rfl : xen = a := by simpa [sv_nth] using n0
  obtain rfl : xi = i := by simpa [sv_nth] using n1
  obtain rfl : xx = x := by simpa [sv_nth] using n2
  clear n0 n1 n2
  have p3 : kf xen = 84 := p3
  have h0 := hf _ (List.mem_of_getElem? (i := 0) rfl)
  simp [sv_FQk, sv_FQ, sv_evs, sv_ev, sv_evT, sv_nth, sv_adq, sv_gs, q_Ks_38, q_Q_38] at h0
  have h1 := hf _ (List.mem_of_getElem? (i := 1) rfl)
  simp [sv_FQk, sv_FQ, sv_evs, sv_ev, sv_evT, sv_nth, sv_adq, sv_gs] at h1
  have h2 := hf _ (List.mem_of_getElem? (i := 2) rfl)
  simp [sv_FQk, sv_FQ, sv_evs, sv_ev, sv_evT, sv_nth, sv_adq, sv_gs] at h2
  have h3 := hf _ (List.mem_of_getElem? (i := 3) rfl)
  simp [sv_FQk, sv_FQ, sv_evs, sv_ev, sv_evT, sv_nth, sv_adq, sv_gs] at h3
  have h4 := hf _ (List.mem_of_getElem? (i := 4) rfl)
  simp [sv_FQk, sv_FQ, sv_evs, sv_ev, sv_evT, sv_nth, sv_adq, sv_gs] at h4
  have h5 := hf _ (List.mem_of_getElem? (i := 5) rfl)
  simp [sv_FQk, sv_FQ, sv_evs, sv_ev, sv_evT, sv_nth, sv_adq, sv_gs] at h5
  have h6 := hf _ (List.mem_of_getElem? (i := 6) rfl)
  simp [sv_FQk, sv_FQ, sv_evs, sv_ev, sv_evT, sv_nth, sv_adq, sv_gs] at h6
  have h7 := hf _ (List.mem_of_getElem? (i := 7) rfl)
  simp [sv_FQk, sv_FQ, sv_evs, sv_ev, sv_evT, sv_nth, sv_adq, sv_gs] at h7
  have h8 := hf _ (List.mem_of_getElem? (i := 8) rfl)
  simp [sv_FQk, sv_FQ, sv_evs, sv_ev, sv_evT, sv_nth, sv_adq, sv_gs] at h8
  have h9 := hf _ (List.mem_of_getElem? (i := 9) rfl)
  simp [sv_FQk, sv_FQ, sv_evs, sv_ev, sv_evT, sv_nth, sv_adq, sv_gs] at h9
  have h10 := hf _ (List.mem_of_getElem? (i := 10) rfl)
  simp [sv_FQk, sv_FQ, sv_evs, sv_ev, sv_evT, sv_nth, sv_adq, sv_gs] at h10
  have h11 := hf _ (List.mem_of_getElem? (i := 11) rfl)
  simp [sv_FQk, sv_FQ, sv_evs, sv_ev, sv_evT, sv_nth, sv_adq, sv_gs] at h11
  have h12 := hf _ (List.mem_of_getElem? (i := 12) rfl)
  simp [sv_FQk, sv_FQ, sv_evs, sv_ev, sv_evT, sv_nth, sv_adq, sv_gs] at h12
  have h13 := hf _ (List.mem_of_getElem? (i := 13) rfl)
  simp [sv_FQk, sv_FQ, sv_evs, sv_ev, sv_evT, sv_nth, sv_adq, sv_gs] at h13
  have h14 := hf _ (List.mem_of_getElem? (i := 14) rfl)
  simp [sv_FQk, sv_FQ, sv_evs, sv_ev, sv_evT, sv_nth, sv_adq, sv_gs] at h14
  have h15 := hf _ (List.mem_of_getElem? (i := 15) rfl)
  simp [sv_FQk, sv_FQ, sv_evs, sv_ev, sv_evT, sv_nth, sv_adq, sv_gs] at h15
  have h16 := hf _ (List.mem_of_getElem? (i := 16) rfl)
  simp [sv_FQk, sv_FQ, sv_evs, sv_ev, sv_evT, sv_nth, sv_adq, sv_gs] at h16
  clear hf
  obtain ⟨⟨⟨-, Kot⟩, ⟨-, Kof⟩, ⟨-, Koz⟩, ⟨-, Ken⟩, ⟨-, Klv⟩, ⟨-, Klo⟩, ⟨-, Kcu⟩, ⟨-, Kns⟩⟩, h0⟩ := h0
  rw [sv_Qos_iff] at h0
  replace h1 := h1 blv (by omega) (by have := h2 blv; omega)
  replace h4 := h4 blo (by omega) (by have := h5 blo; omega)
  replace h7 := h7 bcu (by omega) (by have := h8 bcu; omega)
  replace h10 := h10 bns (by omega) (by have := h11 bns; omega)
  have eot : sv_put g xen xi xx xot = g xot := sv_put_ne (sv_kf_ne Kot p3 (by decide))
  have eof : sv_put g xen xi xx xof = g xof := sv_put_ne (sv_kf_ne Kof p3 (by decide))
  have eoz : sv_put g xen xi xx xoz = g xoz := sv_put_ne (sv_kf_ne Koz p3 (by decide))
  have elv : sv_put g xen xi xx xlv = g xlv := sv_put_ne (sv_kf_ne Klv p3 (by decide))
  have elo : sv_put g xen xi xx xlo = g xlo := sv_put_ne (sv_kf_ne Klo p3 (by decide))
  have ecu : sv_put g xen xi xx xcu = g xcu := sv_put_ne (sv_kf_ne Kcu p3 (by decide))
  have ens : sv_put g xen xi xx xns = g xns := sv_put_ne (sv_kf_ne Kns p3 (by decide))
  intro f hf
  have hf : f ∈ [(54, [], [(0, [(3, 1)]), (0, [(4, 1)]), (0, [(5, 1)]), (0, [(0, 1)]), (0, [(6, 1)]), (0, [(7, 1)]), (0, [(8, 1)]), (0, [(9, 1)]), (0, [(10, 1)]), (0, [(11, 1)])])] := hf
  simp only [List.mem_cons, List.not_mem_nil, or_false] at hf
  subst hf
  · simp [sv_FQk, sv_FQ, sv_evs, sv_ev, sv_evT, sv_nth, sv_adq, sv_gs, q_Ks_38, q_Q_38]
    refine ⟨⟨⟨bot, Kot⟩, ⟨bof, Kof⟩, ⟨boz, Koz⟩, ⟨ben, Ken⟩, ⟨blv, Klv⟩, ⟨blo, Klo⟩, ⟨bcu, Kcu⟩, ⟨bns, Kns⟩⟩, ?_⟩
    rw [sv_Qos_iff]
    simp only [sv_put_eq, eot, eof, eoz, elv, elo, ecu, ens]
    intro o o1 o2
    have q := h0 o o1 o2
    have n1 : ¬ 150 * g xot o + g xof o = xi := by
      intro e
      have et : g xot o = xt := by omega
      rw [et] at q
      omega
    rw [if_neg n1]
    exact q
-- os_e1
def q_m104 : Nat × SvM := (84, ([(0, none), (-1180591620717411303424, none), (-1180591620717411303424, none), (0, none), (0, none), (0, none), (0, none), (0, none), (0, none), (0, none), (-1180591620717411303424, none), (-1180591620717411303424, none), (-1180591620717411303424, none), (-1180591620717411303424, none)], [(54, [], [(0, [(3, 1)]), (0, [(4, 1)]), (0, [(5, 1)]), (0, [(0, 1)]), (0, [(6, 1)]), (0, [(7, 1)]), (0, [(8, 1)]), (0, [(9, 1)]), (0, [(10, 1)]), (0, [(11, 1)])]), (4, [84, 1], [(0, [(0, 1)]), (0, [(1, 1)]), (0, [(12, 1)])]), (2, [], [(0, [(0, 1)]), (0, [(13, 1)])]), (0, [], [(0, [(1, 1)])]), (0, [], [(-1, [(1, -1), (13, 1)])]), (0, [], [(0, [(2, 1), (12, -1)])])], [(54, [], [(0, [(3, 1)]), (0, [(4, 1)]), (0, [(5, 1)]), (0, [(0, 1)]), (0, [(6, 1)]), (0, [(7, 1)]), (0, [(8, 1)]), (0, [(9, 1)]), (0, [(10, 1)]), (0, [(11, 1)])])]))
theorem q_m104_ok : ∀ (g : Int → Int → Int) (ln : Int → Int) (kf : Int → Nat) (ρ : List Int) (a i x : Int), sv_BOk ρ q_m104.2.1 → (∀ f ∈ q_m104.2.2.1, sv_FQk q_Ks q_Q g ln kf ρ f) → sv_nth ρ 0 = some a → sv_nth ρ 1 = some i → sv_nth ρ 2 = some x → 0 ≤ a → 0 ≤ i → i < ln a → kf a = q_m104.1 → ∀ f ∈ q_m104.2.2.2, sv_FQk q_Ks q_Q (sv_put g a i x) ln kf ρ f := by
  intro g ln kf ρ a i x hb hf n0 n1 n2 p0 p1 p2 p3
  obtain ⟨hl, hb⟩ := hb
  obtain ⟨xen, r0, rfl, l0⟩ := sv_lens hl
  obtain ⟨xi, r1, rfl, l1⟩ := sv_lens l0
  obtain ⟨xx, r2, rfl, l2⟩ := sv_lens l1
  obtain ⟨xot, r3, rfl, l3⟩ := sv_lens l2
  obtain ⟨xof, r4, rfl, l4⟩ := sv_lens l3
  obtain ⟨xoz, r5, rfl, l5⟩ := sv_lens l4
  obtain ⟨xlv, r6, rfl, l6⟩ := sv_lens l5
  obtain ⟨xlo, r7, rfl, l7⟩ := sv_lens l6
  obtain ⟨xcu, r8, rfl, l8⟩ := sv_lens l7
  obtain ⟨xns, r9, rfl, l9⟩ := sv_lens l8
  obtain ⟨xn, r10, rfl, l10⟩ := sv_lens l9
  obtain ⟨xtr, r11, rfl, l11⟩ := sv_lens l10
  obtain ⟨xe, r12, rfl, l12⟩ := sv_lens l11
  obtain ⟨xM, r13, rfl, l13⟩ := sv_lens l12
  obtain rfl := sv_len0 l13
  clear l0 l1 l2 l3 l4 l5 l6 l7 l8 l9 l10 l11 l12 l13 hl
  have ben : 0 ≤ xen := (hb 0 _ _ rfl rfl).1
  have bot : 0 ≤ xot := (hb 3 _ _ rfl rfl).1
  have bof : 0 ≤ xof := (hb 4 _ _ rfl rfl).1
  have boz : 0 ≤ xoz := (hb 5 _ _ rfl rfl).1
  have blv : 0 ≤ xlv := (hb 6 _ _ rfl rfl).1
  have blo : 0 ≤ xlo := (hb 7 _ _ rfl rfl).1
  have bcu : 0 ≤ xcu := (hb 8 _ _ rfl rfl).1
  have bns : 0 ≤ xns := (hb 9 _ _ rfl rfl).1
  clear hb
  obtain rfl : xen = a := by simpa [sv_nth] using n0
  obtain rfl : xi = i := by simpa [sv_nth] using n1
  obtain rfl : xx = x := by simpa [sv_nth] using n2
  clear n0 n1 n2
  have p3 : kf xen = 84 := p3
  have h0 := hf _ (List.mem_of_getElem? (i := 0) rfl)
  simp [sv_FQk, sv_FQ, sv_evs, sv_ev, sv_evT, sv_nth, sv_adq, sv_gs, q_Ks_38, q_Q_38] at h0
  have h1 := hf _ (List.mem_of_getElem? (i := 1) rfl)
  simp [sv_FQk, sv_FQ, sv_evs, sv_ev, sv_evT, sv_nth, sv_adq, sv_gs] at h1
  have h2 := hf _ (List.mem_of_getElem? (i := 2) rfl)
  simp [sv_FQk, sv_FQ, sv_evs, sv_ev, sv_evT, sv_nth, sv_adq, sv_gs] at h2
  have h3 := hf _ (List.mem_of_getElem? (i := 3) rfl)
  simp [sv_FQk, sv_FQ, sv_evs, sv_ev, sv_evT, sv_nth, sv_adq, sv_gs] at h3
  have h4 := hf _ (List.mem_of_getElem? (i := 4) rfl)
  simp [sv_FQk, sv_FQ, sv_evs, sv_ev, sv_evT, sv_nth, sv_adq, sv_gs] at h4
  have h5 := hf _ (List.mem_of_getElem? (i := 5) rfl)
  simp [sv_FQk, sv_FQ, sv_evs, sv_ev, sv_evT, sv_nth, sv_adq, sv_gs] at h5
  clear hf
  obtain ⟨⟨⟨-, Kot⟩, ⟨-, Kof⟩, ⟨-, Koz⟩, ⟨-, Ken⟩, ⟨-, Klv⟩, ⟨-, Klo⟩, ⟨-, Kcu⟩, ⟨-, Kns⟩⟩, h0⟩ := h0
  rw [sv_Qos_iff] at h0
  replace h1 := h1 ben (by omega) (by have := h2 ben; omega)
  have eot : sv_put g xen xi xx xot = g xot := sv_put_ne (sv_kf_ne Kot p3 (by decide))
  have eof : sv_put g xen xi xx xof = g xof := sv_put_ne (sv_kf_ne Kof p3 (by decide))
  have eoz : sv_put g xen xi xx xoz = g xoz := sv_put_ne (sv_kf_ne Koz p3 (by decide))
  have elv : sv_put g xen xi xx xlv = g xlv := sv_put_ne (sv_kf_ne Klv p3 (by decide))
  have elo : sv_put g xen xi xx xlo = g xlo := sv_put_ne (sv_kf_ne Klo p3 (by decide))
  have ecu : sv_put g xen xi xx xcu = g xcu := sv_put_ne (sv_kf_ne Kcu p3 (by decide))
  have ens : sv_put g xen xi xx xns = g xns := sv_put_ne (sv_kf_ne Kns p3 (by decide))
  intro f hf
  have hf : f ∈ [(54, [], [(0, [(3, 1)]), (0, [(4, 1)]), (0, [(5, 1)]), (0, [(0, 1)]), (0, [(6, 1)]), (0, [(7, 1)]), (0, [(8, 1)]), (0, [(9, 1)]), (0, [(10, 1)]), (0, [(11, 1)])])] := hf
  simp only [List.mem_cons, List.not_mem_nil, or_false] at hf
  subst hf
  · simp [sv_FQk, sv_FQ, sv_evs, sv_ev, sv_evT, sv_nth, sv_adq, sv_gs, q_Ks_38, q_Q_38]
    refine ⟨⟨⟨bot, Kot⟩, ⟨bof, Kof⟩, ⟨boz, Koz⟩, ⟨ben, Ken⟩, ⟨blv, Klv⟩, ⟨blo, Klo⟩, ⟨bcu, Kcu⟩, ⟨bns, Kns⟩⟩, ?_⟩
    rw [sv_Qos_iff]
    simp only [sv_put_eq, eot, eof, eoz, elv, elo, ecu, ens]
    intro o o1 o2
    have q := h0 o o1 o2
    by_cases e : 150 * g xot o + g xof o = xi
    · rw [if_pos e]
      obtain ⟨q1, q2, q3, q4, q5, q6⟩ := q
      rw [e] at q6
      exact ⟨q1, q2, q3, q4, q5, by omega⟩
    · rw [if_neg e]
      exact q
-- os_nlv
def q_m105 : Nat × SvM := (75, ([(0, none), (-1180591620717411303424, none), (-1180591620717411303424, none), (0, none), (0, none), (0, none), (0, none), (0, none), (0, none), (0, none), (-1180591620717411303424, none), (-1180591620717411303424, none)], [(54, [], [(0, [(3, 1)]), (0, [(4, 1)]), (0, [(5, 1)]), (0, [(6, 1)]), (0, [(0, 1)]), (0, [(7, 1)]), (0, [(8, 1)]), (0, [(9, 1)]), (0, [(10, 1)]), (0, [(11, 1)])]), (0, [], [(0, [(1, 1), (11, -1)])])], [(54, [], [(0, [(3, 1)]), (0, [(4, 1)]), (0, [(5, 1)]), (0, [(6, 1)]), (0, [(0, 1)]), (0, [(7, 1)]), (0, [(8, 1)]), (0, [(9, 1)]), (0, [(10, 1)]), (0, [(11, 1)])])]))
theorem q_m105_ok : ∀ (g : Int → Int → Int) (ln : Int → Int) (kf : Int → Nat) (ρ : List Int) (a i x : Int), sv_BOk ρ q_m105.2.1 → (∀ f ∈ q_m105.2.2.1, sv_FQk q_Ks q_Q g ln kf ρ f) → sv_nth ρ 0 = some a → sv_nth ρ 1 = some i → sv_nth ρ 2 = some x → 0 ≤ a → 0 ≤ i → i < ln a → kf a = q_m105.1 → ∀ f ∈ q_m105.2.2.2, sv_FQk q_Ks q_Q (sv_put g a i x) ln kf ρ f := by
  intro g ln kf ρ a i x hb hf n0 n1 n2 p0 p1 p2 p3
  obtain ⟨hl, hb⟩ := hb
  obtain ⟨xlv, r0, rfl, l0⟩ := sv_lens hl
  obtain ⟨xi, r1, rfl, l1⟩ := sv_lens l0
  obtain ⟨xx, r2, rfl, l2⟩ := sv_lens l1
  obtain ⟨xot, r3, rfl, l3⟩ := sv_lens l2
  obtain ⟨xof, r4, rfl, l4⟩ := sv_lens l3
  obtain ⟨xoz, r5, rfl, l5⟩ := sv_lens l4
  obtain ⟨xen, r6, rfl, l6⟩ := sv_lens l5
  obtain ⟨xlo, r7, rfl, l7⟩ := sv_lens l6
  obtain ⟨xcu, r8, rfl, l8⟩ := sv_lens l7
  obtain ⟨xns, r9, rfl, l9⟩ := sv_lens l8
  obtain ⟨xn, r10, rfl, l10⟩ := sv_lens l9
  obtain ⟨xtr, r11, rfl, l11⟩ := sv_lens l10
  obtain rfl := sv_len0 l11
  clear l0 l1 l2 l3 l4 l5 l6 l7 l8 l9 l10 l11 hl
  have blv : 0 ≤ xlv := (hb 0 _ _ rfl rfl).1
  have bot : 0 ≤ xot := (hb 3 _ _ rfl rfl).1
  have bof : 0 ≤ xof := (hb 4 _ _ rfl rfl).1
  have boz : 0 ≤ xoz := (hb 5 _ _ rfl rfl).1
  have ben : 0 ≤ xen := (hb 6 _ _ rfl rfl).1
  have blo : 0 ≤ xlo := (hb 7 _ _ rfl rfl).1
  have bcu : 0 ≤ xcu := (hb 8 _ _ rfl rfl).1
  have bns : 0 ≤ xns := (hb 9 _ _ rfl rfl).1
  clear hb
  obtain rfl : xlv = a := by simpa [sv_nth] using n0
  obtain rfl : xi = i := by simpa [sv_nth] using n1
  obtain rfl : xx = x := by simpa [sv_nth] using n2
  clear n0 n1 n2
  have p3 : kf xlv = 75 := p3
  have h0 := hf _ (List.mem_of_getElem? (i := 0) rfl)
  simp [sv_FQk, sv_FQ, sv_evs, sv_ev, sv_evT, sv_nth, sv_adq, sv_gs, q_Ks_38, q_Q_38] at h0
  have h1 := hf _ (List.mem_of_getElem? (i := 1) rfl)
  simp [sv_FQk, sv_FQ, sv_evs, sv_ev, sv_evT, sv_nth, sv_adq, sv_gs] at h1
  clear hf
  obtain ⟨⟨⟨-, Kot⟩, ⟨-, Kof⟩, ⟨-, Koz⟩, ⟨-, Ken⟩, ⟨-, Klv⟩, ⟨-, Klo⟩, ⟨-, Kcu⟩, ⟨-, Kns⟩⟩, h0⟩ := h0
  rw [sv_Qos_iff] at h0
  have eot : sv_put g xlv xi xx xot = g xot := sv_put_ne (sv_kf_ne Kot p3 (by decide))
  have eof : sv_put g xlv xi xx xof = g xof := sv_put_ne (sv_kf_ne Kof p3 (by decide))
  have eoz : sv_put g xlv xi xx xoz = g xoz := sv_put_ne (sv_kf_ne Koz p3 (by decide))
  have een : sv_put g xlv xi xx xen = g xen := sv_put_ne (sv_kf_ne Ken p3 (by decide))
  have elo : sv_put g xlv xi xx xlo = g xlo := sv_put_ne (sv_kf_ne Klo p3 (by decide))
  have ecu : sv_put g xlv xi xx xcu = g xcu := sv_put_ne (sv_kf_ne Kcu p3 (by decide))
  have ens : sv_put g xlv xi xx xns = g xns := sv_put_ne (sv_kf_ne Kns p3 (by decide))
  intro f hf
  have hf : f ∈ [(54, [], [(0, [(3, 1)]), (0, [(4, 1)]), (0, [(5, 1)]), (0, [(6, 1)]), (0, [(0, 1)]), (0, [(7, 1)]), (0, [(8, 1)]), (0, [(9, 1)]), (0, [(10, 1)]), (0, [(11, 1)])])] := hf
  simp only [List.mem_cons, List.not_mem_nil, or_false] at hf
  subst hf
  · simp [sv_FQk, sv_FQ, sv_evs, sv_ev, sv_evT, sv_nth, sv_adq, sv_gs, q_Ks_38, q_Q_38]
    refine ⟨⟨⟨bot, Kot⟩, ⟨bof, Kof⟩, ⟨boz, Koz⟩, ⟨ben, Ken⟩, ⟨blv, Klv⟩, ⟨blo, Klo⟩, ⟨bcu, Kcu⟩, ⟨bns, Kns⟩⟩, ?_⟩
    rw [sv_Qos_iff]
    simp only [sv_put_eq, eot, eof, eoz, een, elo, ecu, ens]
    intro o o1 o2
    have q := h0 o o1 o2
    rw [if_neg (by omega)]
    exact q
-- os_clv
def q_m106 : Nat × SvM := (75, ([(0, none), (-1180591620717411303424, none), (-1180591620717411303424, none), (0, none), (0, none), (0, none), (0, none), (0, none), (0, none), (0, none), (-1180591620717411303424, none), (-1180591620717411303424, none), (-1180591620717411303424, none), (-1180591620717411303424, none)], [(54, [], [(0, [(3, 1)]), (0, [(4, 1)]), (0, [(5, 1)]), (0, [(6, 1)]), (0, [(0, 1)]), (0, [(7, 1)]), (0, [(8, 1)]), (0, [(9, 1)]), (0, [(10, 1)]), (0, [(11, 1)])]), (4, [75, 1], [(0, [(0, 1)]), (0, [(1, 1)]), (0, [(12, 1)])]), (2, [], [(0, [(0, 1)]), (0, [(13, 1)])]), (0, [], [(0, [(1, 1)])]), (0, [], [(-1, [(1, -1), (13, 1)])]), (0, [], [(0, [(2, 1), (12, -1)])])], [(54, [], [(0, [(3, 1)]), (0, [(4, 1)]), (0, [(5, 1)]), (0, [(6, 1)]), (0, [(0, 1)]), (0, [(7, 1)]), (0, [(8, 1)]), (0, [(9, 1)]), (0, [(10, 1)]), (0, [(11, 1)])])]))
theorem q_m106_ok : ∀ (g : Int → Int → Int) (ln : Int → Int) (kf : Int → Nat) (ρ : List Int) (a i x : Int), sv_BOk ρ q_m106.2.1 → (∀ f ∈ q_m106.2.2.1, sv_FQk q_Ks q_Q g ln kf ρ f) → sv_nth ρ 0 = some a → sv_nth ρ 1 = some i → sv_nth ρ 2 = some x → 0 ≤ a → 0 ≤ i → i < ln a → kf a = q_m106.1 → ∀ f ∈ q_m106.2.2.2, sv_FQk q_Ks q_Q (sv_put g a i x) ln kf ρ f := by
  intro g ln kf ρ a i x hb hf n0 n1 n2 p0 p1 p2 p3
  obtain ⟨hl, hb⟩ := hb
  obtain ⟨xlv, r0, rfl, l0⟩ := sv_lens hl
  obtain ⟨xi, r1, rfl, l1⟩ := sv_lens l0
  obtain ⟨xx, r2, rfl, l2⟩ := sv_lens l1
  obtain ⟨xot, r3, rfl, l3⟩ := sv_lens l2
  obtain ⟨xof, r4, rfl, l4⟩ := sv_lens l3
  obtain ⟨xoz, r5, rfl, l5⟩ := sv_lens l4
  obtain ⟨xen, r6, rfl, l6⟩ := sv_lens l5
  obtain ⟨xlo, r7, rfl, l7⟩ := sv_lens l6
  obtain ⟨xcu, r8, rfl, l8⟩ := sv_lens l7
  obtain ⟨xns, r9, rfl, l9⟩ := sv_lens l8
  obtain ⟨xn, r10, rfl, l10⟩ := sv_lens l9
  obtain ⟨xtr, r11, rfl, l11⟩ := sv_lens l10
  obtain ⟨xy, r12, rfl, l12⟩ := sv_lens l11
  obtain ⟨xN, r13, rfl, l13⟩ := sv_lens l12
  obtain rfl := sv_len0 l13
  clear l0 l1 l2 l3 l4 l5 l6 l7 l8 l9 l10 l11 l12 l13 hl
  have blv : 0 ≤ xlv := (hb 0 _ _ rfl rfl).1
  have bot : 0 ≤ xot := (hb 3 _ _ rfl rfl).1
  have bof : 0 ≤ xof := (hb 4 _ _ rfl rfl).1
  have boz : 0 ≤ xoz := (hb 5 _ _ rfl rfl).1
  have ben : 0 ≤ xen := (hb 6 _ _ rfl rfl).1
  have blo : 0 ≤ xlo := (hb 7 _ _ rfl rfl).1
  have bcu : 0 ≤ xcu := (hb 8 _ _ rfl rfl).1
  have bns : 0 ≤ xns := (hb 9 _ _ rfl rfl).1
  clear hb
  obtain rfl : xlv = a := by simpa [sv_nth] using n0
  obtain rfl : xi = i := by simpa [sv_nth] using n1
  obtain rfl : xx = x := by simpa [sv_nth] using n2
  clear n0 n1 n2
  have p3 : kf xlv = 75 := p3
  have h0 := hf _ (List.mem_of_getElem? (i := 0) rfl)
  simp [sv_FQk, sv_FQ, sv_evs, sv_ev, sv_evT, sv_nth, sv_adq, sv_gs, q_Ks_38, q_Q_38] at h0
  have h1 := hf _ (List.mem_of_getElem? (i := 1) rfl)
  simp [sv_FQk, sv_FQ, sv_evs, sv_ev, sv_evT, sv_nth, sv_adq, sv_gs] at h1
  have h2 := hf _ (List.mem_of_getElem? (i := 2) rfl)
  simp [sv_FQk, sv_FQ, sv_evs, sv_ev, sv_evT, sv_nth, sv_adq, sv_gs] at h2
  have h3 := hf _ (List.mem_of_getElem? (i := 3) rfl)
  simp [sv_FQk, sv_FQ, sv_evs, sv_ev, sv_evT, sv_nth, sv_adq, sv_gs] at h3
  have h4 := hf _ (List.mem_of_getElem? (i := 4) rfl)
  simp [sv_FQk, sv_FQ, sv_evs, sv_ev, sv_evT, sv_nth, sv_adq, sv_gs] at h4
  have h5 := hf _ (List.mem_of_getElem? (i := 5) rfl)
  simp [sv_FQk, sv_FQ, sv_evs, sv_ev, sv_evT, sv_nth, sv_adq, sv_gs] at h5
  clear hf
  obtain ⟨⟨⟨-, Kot⟩, ⟨-, Kof⟩, ⟨-, Koz⟩, ⟨-, Ken⟩, ⟨-, Klv⟩, ⟨-, Klo⟩, ⟨-, Kcu⟩, ⟨-, Kns⟩⟩, h0⟩ := h0
  rw [sv_Qos_iff] at h0
  replace h1 := h1 blv (by omega) (by have := h2 blv; omega)
  have eot : sv_put g xlv xi xx xot = g xot := sv_put_ne (sv_kf_ne Kot p3 (by decide))
  have eof : sv_put g xlv xi xx xof = g xof := sv_put_ne (sv_kf_ne Kof p3 (by decide))
  have eoz : sv_put g xlv xi xx xoz = g xoz := sv_put_ne (sv_kf_ne Koz p3 (by decide))
  have een : sv_put g xlv xi xx xen = g xen := sv_put_ne (sv_kf_ne Ken p3 (by decide))
  have elo : sv_put g xlv xi xx xlo = g xlo := sv_put_ne (sv_kf_ne Klo p3 (by decide))
  have ecu : sv_put g xlv xi xx xcu = g xcu := sv_put_ne (sv_kf_ne Kcu p3 (by decide))
  have ens : sv_put g xlv xi xx xns = g xns := sv_put_ne (sv_kf_ne Kns p3 (by decide))
  intro f hf
  have hf : f ∈ [(54, [], [(0, [(3, 1)]), (0, [(4, 1)]), (0, [(5, 1)]), (0, [(6, 1)]), (0, [(0, 1)]), (0, [(7, 1)]), (0, [(8, 1)]), (0, [(9, 1)]), (0, [(10, 1)]), (0, [(11, 1)])])] := hf
  simp only [List.mem_cons, List.not_mem_nil, or_false] at hf
  subst hf
  · simp [sv_FQk, sv_FQ, sv_evs, sv_ev, sv_evT, sv_nth, sv_adq, sv_gs, q_Ks_38, q_Q_38]
    refine ⟨⟨⟨bot, Kot⟩, ⟨bof, Kof⟩, ⟨boz, Koz⟩, ⟨ben, Ken⟩, ⟨blv, Klv⟩, ⟨blo, Klo⟩, ⟨bcu, Kcu⟩, ⟨bns, Kns⟩⟩, ?_⟩
    rw [sv_Qos_iff]
    simp only [sv_put_eq, eot, eof, eoz, een, elo, ecu, ens]
    intro o o1 o2
    have q := h0 o o1 o2
    by_cases e : g xot o = xi
    · rw [if_pos e]
      have u : g xlv (g xot o) = xy := by
        rw [e]
        exact h1
      obtain ⟨q1, q2, q3, q4, q5, q6⟩ := q
      exact ⟨q1, q2, q3, q4, by omega, q6⟩
    · rw [if_neg e]
      exact q
-- os_nlo
def q_m107 : Nat × SvM := (76, ([(0, none), (-1180591620717411303424, none), (-1180591620717411303424, none), (0, none), (0, none), (0, none), (0, none), (0, none), (0, none), (0, none), (-1180591620717411303424, none), (-1180591620717411303424, none)], [(54, [], [(0, [(3, 1)]), (0, [(4, 1)]), (0, [(5, 1)]), (0, [(6, 1)]), (0, [(7, 1)]), (0, [(0, 1)]), (0, [(8, 1)]), (0, [(9, 1)]), (0, [(10, 1)]), (0, [(11, 1)])]), (0, [], [(0, [(1, 1), (11, -1)])])], [(54, [], [(0, [(3, 1)]), (0, [(4, 1)]), (0, [(5, 1)]), (0, [(6, 1)]), (0, [(7, 1)]), (0, [(0, 1)]), (0, [(8, 1)]), (0, [(9, 1)]), (0, [(10, 1)]), (0, [(11, 1)])])]))
theorem q_m107_ok : ∀ (g : Int → Int → Int) (ln : Int → Int) (kf : Int → Nat) (ρ : List Int) (a i x : Int), sv_BOk ρ q_m107.2.1 → (∀ f ∈ q_m107.2.2.1, sv_FQk q_Ks q_Q g ln kf ρ f) → sv_nth ρ 0 = some a → sv_nth ρ 1 = some i → sv_nth ρ 2 = some x → 0 ≤ a → 0 ≤ i → i < ln a → kf a = q_m107.1 → ∀ f ∈ q_m107.2.2.2, sv_FQk q_Ks q_Q (sv_put g a i x) ln kf ρ f := by
  intro g ln kf ρ a i x hb hf n0 n1 n2 p0 p1 p2 p3
  obtain ⟨hl, hb⟩ := hb
  obtain ⟨xlo, r0, rfl, l0⟩ := sv_lens hl
  obtain ⟨xi, r1, rfl, l1⟩ := sv_lens l0
  obtain ⟨xx, r2, rfl, l2⟩ := sv_lens l1
  obtain ⟨xot, r3, rfl, l3⟩ := sv_lens l2
  obtain ⟨xof, r4, rfl, l4⟩ := sv_lens l3
  obtain ⟨xoz, r5, rfl, l5⟩ := sv_lens l4
  obtain ⟨xen, r6, rfl, l6⟩ := sv_lens l5
  obtain ⟨xlv, r7, rfl, l7⟩ := sv_lens l6
  obtain ⟨xcu, r8, rfl, l8⟩ := sv_lens l7
  obtain ⟨xns, r9, rfl, l9⟩ := sv_lens l8
  obtain ⟨xn, r10, rfl, l10⟩ := sv_lens l9
  obtain ⟨xtr, r11, rfl, l11⟩ := sv_lens l10
  obtain rfl := sv_len0 l11
  clear l0 l1 l2 l3 l4 l5 l6 l7 l8 l9 l10 l11 hl
  have blo : 0 ≤ xlo := (hb 0 _ _ rfl rfl).1
  have bot : 0 ≤ xot := (hb 3 _ _ rfl rfl).1
  have bof : 0 ≤ xof := (hb 4 _ _ rfl rfl).1
  have boz : 0 ≤ xoz := (hb 5 _ _ rfl rfl).1
  have ben : 0 ≤ xen := (hb 6 _ _ rfl rfl).1
  have blv : 0 ≤ xlv := (hb 7 _ _ rfl rfl).1
  have bcu : 0 ≤ xcu := (hb 8 _ _ rfl rfl).1
  have bns : 0 ≤ xns := (hb 9 _ _ rfl rfl).1
  clear hb
  obtain rfl : xlo = a := by simpa [sv_nth] using n0
  obtain rfl : xi = i := by simpa [sv_nth] using n1
  obtain rfl : xx = x := by simpa [sv_nth] using n2
  clear n0 n1 n2
  have p3 : kf xlo = 76 := p3
  have h0 := hf _ (List.mem_of_getElem? (i := 0) rfl)
  simp [sv_FQk, sv_FQ, sv_evs, sv_ev, sv_evT, sv_nth, sv_adq, sv_gs, q_Ks_38, q_Q_38] at h0
  have h1 := hf _ (List.mem_of_getElem? (i := 1) rfl)
  simp [sv_FQk, sv_FQ, sv_evs, sv_ev, sv_evT, sv_nth, sv_adq, sv_gs] at h1
  clear hf
  obtain ⟨⟨⟨-, Kot⟩, ⟨-, Kof⟩, ⟨-, Koz⟩, ⟨-, Ken⟩, ⟨-, Klv⟩, ⟨-, Klo⟩, ⟨-, Kcu⟩, ⟨-, Kns⟩⟩, h0⟩ := h0
  rw [sv_Qos_iff] at h0
  have eot : sv_put g xlo xi xx xot = g xot := sv_put_ne (sv_kf_ne Kot p3 (by decide))
  have eof : sv_put g xlo xi xx xof = g xof := sv_put_ne (sv_kf_ne Kof p3 (by decide))
  have eoz : sv_put g xlo xi xx xoz = g xoz := sv_put_ne (sv_kf_ne Koz p3 (by decide))
  have een : sv_put g xlo xi xx xen = g xen := sv_put_ne (sv_kf_ne Ken p3 (by decide))
  have elv : sv_put g xlo xi xx xlv = g xlv := sv_put_ne (sv_kf_ne Klv p3 (by decide))
  have ecu : sv_put g xlo xi xx xcu = g xcu := sv_put_ne (sv_kf_ne Kcu p3 (by decide))
  have ens : sv_put g xlo xi xx xns = g xns := sv_put_ne (sv_kf_ne Kns p3 (by decide))
  intro f hf
  have hf : f ∈ [(54, [], [(0, [(3, 1)]), (0, [(4, 1)]), (0, [(5, 1)]), (0, [(6, 1)]), (0, [(7, 1)]), (0, [(0, 1)]), (0, [(8, 1)]), (0, [(9, 1)]), (0, [(10, 1)]), (0, [(11, 1)])])] := hf
  simp only [List.mem_cons, List.not_mem_nil, or_false] at hf
  subst hf
  · simp [sv_FQk, sv_FQ, sv_evs, sv_ev, sv_evT, sv_nth, sv_adq, sv_gs, q_Ks_38, q_Q_38]
    refine ⟨⟨⟨bot, Kot⟩, ⟨bof, Kof⟩, ⟨boz, Koz⟩, ⟨ben, Ken⟩, ⟨blv, Klv⟩, ⟨blo, Klo⟩, ⟨bcu, Kcu⟩, ⟨bns, Kns⟩⟩, ?_⟩
    rw [sv_Qos_iff]
    simp only [sv_put_eq, eot, eof, eoz, een, elv, ecu, ens]
    intro o o1 o2
    have q := h0 o o1 o2
    rw [if_neg (by omega)]
    exact q
-- os_clo
def q_m108 : Nat × SvM := (76, ([(0, none), (-1180591620717411303424, none), (-1180591620717411303424, none), (0, none), (0, none), (0, none), (0, none), (0, none), (0, none), (0, none), (-1180591620717411303424, none), (-1180591620717411303424, none), (-1180591620717411303424, none), (-1180591620717411303424, none)], [(54, [], [(0, [(3, 1)]), (0, [(4, 1)]), (0, [(5, 1)]), (0, [(6, 1)]), (0, [(7, 1)]), (0, [(0, 1)]), (0, [(8, 1)]), (0, [(9, 1)]), (0, [(10, 1)]), (0, [(11, 1)])]), (4, [76, 1], [(0, [(0, 1)]), (0, [(1, 1)]), (0, [(12, 1)])]), (2, [], [(0, [(0, 1)]), (0, [(13, 1)])]), (0, [], [(0, [(1, 1)])]), (0, [], [(-1, [(1, -1), (13, 1)])]), (0, [], [(0, [(2, 1), (12, -1)])])], [(54, [], [(0, [(3, 1)]), (0, [(4, 1)]), (0, [(5, 1)]), (0, [(6, 1)]), (0, [(7, 1)]), (0, [(0, 1)]), (0, [(8, 1)]), (0, [(9, 1)]), (0, [(10, 1)]), (0, [(11, 1)])])]))
theorem q_m108_ok : ∀ (g : Int → Int → Int) (ln : Int → Int) (kf : Int → Nat) (ρ : List Int) (a i x : Int), sv_BOk ρ q_m108.2.1 → (∀ f ∈ q_m108.2.2.1, sv_FQk q_Ks q_Q g ln kf ρ f) → sv_nth ρ 0 = some a → sv_nth ρ 1 = some i → sv_nth ρ 2 = some x → 0 ≤ a → 0 ≤ i → i < ln a → kf a = q_m108.1 → ∀ f ∈ q_m108.2.2.2, sv_FQk q_Ks q_Q (sv_put g a i x) ln kf ρ f := by
  intro g ln kf ρ a i x hb hf n0 n1 n2 p0 p1 p2 p3
  obtain ⟨hl, hb⟩ := hb
  obtain ⟨xlo, r0, rfl, l0⟩ := sv_lens hl
  obtain ⟨xi, r1, rfl, l1⟩ := sv_lens l0
  obtain ⟨xx, r2, rfl, l2⟩ := sv_lens l1
  obtain ⟨xot, r3, rfl, l3⟩ := sv_lens l2
  obtain ⟨xof, r4, rfl, l4⟩ := sv_lens l3
  obtain ⟨xoz, r5, rfl, l5⟩ := sv_lens l4
  obtain ⟨xen, r6, rfl, l6⟩ := sv_lens l5
  obtain ⟨xlv, r7, rfl, l7⟩ := sv_lens l6
  obtain ⟨xcu, r8, rfl, l8⟩ := sv_lens l7
  obtain ⟨xns, r9, rfl, l9⟩ := sv_lens l8
  obtain ⟨xn, r10, rfl, l10⟩ := sv_lens l9
  obtain ⟨xtr, r11, rfl, l11⟩ := sv_lens l10
  obtain ⟨xy, r12, rfl, l12⟩ := sv_lens l11
  obtain ⟨xN, r13, rfl, l13⟩ := sv_lens l12
  obtain rfl := sv_len0 l13
  clear l0 l1 l2 l3 l4 l5 l6 l7 l8 l9 l10 l11 l12 l13 hl
  have blo : 0 ≤ xlo := (hb 0 _ _ rfl rfl).1
  have bot : 0 ≤ xot := (hb 3 _ _ rfl rfl).1
  have bof : 0 ≤ xof := (hb 4 _ _ rfl rfl).1
  have boz : 0 ≤ xoz := (hb 5 _ _ rfl rfl).1
  have ben : 0 ≤ xen := (hb 6 _ _ rfl rfl).1
  have blv : 0 ≤ xlv := (hb 7 _ _ rfl rfl).1
  have bcu : 0 ≤ xcu := (hb 8 _ _ rfl rfl).1
  have bns : 0 ≤ xns := (hb 9 _ _ rfl rfl).1
  clear hb
  obtain rfl : xlo = a := by simpa [sv_nth] using n0
  obtain rfl : xi = i := by simpa [sv_nth] using n1
  obtain rfl : xx = x := by simpa [sv_nth] using n2
  clear n0 n1 n2
  have p3 : kf xlo = 76 := p3
  have h0 := hf _ (List.mem_of_getElem? (i := 0) rfl)
  simp [sv_FQk, sv_FQ, sv_evs, sv_ev, sv_evT, sv_nth, sv_adq, sv_gs, q_Ks_38, q_Q_38] at h0
  have h1 := hf _ (List.mem_of_getElem? (i := 1) rfl)
  simp [sv_FQk, sv_FQ, sv_evs, sv_ev, sv_evT, sv_nth, sv_adq, sv_gs] at h1
  have h2 := hf _ (List.mem_of_getElem? (i := 2) rfl)
  simp [sv_FQk, sv_FQ, sv_evs, sv_ev, sv_evT, sv_nth, sv_adq, sv_gs] at h2
  have h3 := hf _ (List.mem_of_getElem? (i := 3) rfl)
  simp [sv_FQk, sv_FQ, sv_evs, sv_ev, sv_evT, sv_nth, sv_adq, sv_gs] at h3
  have h4 := hf _ (List.mem_of_getElem? (i := 4) rfl)
  simp [sv_FQk, sv_FQ, sv_evs, sv_ev, sv_evT, sv_nth, sv_adq, sv_gs] at h4
  have h5 := hf _ (List.mem_of_getElem? (i := 5) rfl)
  simp [sv_FQk, sv_FQ, sv_evs, sv_ev, sv_evT, sv_nth, sv_adq, sv_gs] at h5
  clear hf
  obtain ⟨⟨⟨-, Kot⟩, ⟨-, Kof⟩, ⟨-, Koz⟩, ⟨-, Ken⟩, ⟨-, Klv⟩, ⟨-, Klo⟩, ⟨-, Kcu⟩, ⟨-, Kns⟩⟩, h0⟩ := h0
  rw [sv_Qos_iff] at h0
  replace h1 := h1 blo (by omega) (by have := h2 blo; omega)
  have eot : sv_put g xlo xi xx xot = g xot := sv_put_ne (sv_kf_ne Kot p3 (by decide))
  have eof : sv_put g xlo xi xx xof = g xof := sv_put_ne (sv_kf_ne Kof p3 (by decide))
  have eoz : sv_put g xlo xi xx xoz = g xoz := sv_put_ne (sv_kf_ne Koz p3 (by decide))
  have een : sv_put g xlo xi xx xen = g xen := sv_put_ne (sv_kf_ne Ken p3 (by decide))
  have elv : sv_put g xlo xi xx xlv = g xlv := sv_put_ne (sv_kf_ne Klv p3 (by decide))
  have ecu : sv_put g xlo xi xx xcu = g xcu := sv_put_ne (sv_kf_ne Kcu p3 (by decide))
  have ens : sv_put g xlo xi xx xns = g xns := sv_put_ne (sv_kf_ne Kns p3 (by decide))
  intro f hf
  have hf : f ∈ [(54, [], [(0, [(3, 1)]), (0, [(4, 1)]), (0, [(5, 1)]), (0, [(6, 1)]), (0, [(7, 1)]), (0, [(0, 1)]), (0, [(8, 1)]), (0, [(9, 1)]), (0, [(10, 1)]), (0, [(11, 1)])])] := hf
  simp only [List.mem_cons, List.not_mem_nil, or_false] at hf
  subst hf
  · simp [sv_FQk, sv_FQ, sv_evs, sv_ev, sv_evT, sv_nth, sv_adq, sv_gs, q_Ks_38, q_Q_38]
    refine ⟨⟨⟨bot, Kot⟩, ⟨bof, Kof⟩, ⟨boz, Koz⟩, ⟨ben, Ken⟩, ⟨blv, Klv⟩, ⟨blo, Klo⟩, ⟨bcu, Kcu⟩, ⟨bns, Kns⟩⟩, ?_⟩
    rw [sv_Qos_iff]
    simp only [sv_put_eq, eot, eof, eoz, een, elv, ecu, ens]
    intro o o1 o2
    have q := h0 o o1 o2
    by_cases e : g xot o = xi
    · rw [if_pos e]
      have u : g xlo (g xot o) = xy := by
        rw [e]
        exact h1
      obtain ⟨q1, q2, q3, q4, q5, q6⟩ := q
      exact ⟨q1, q2, q3, q4, by omega, q6⟩
    · rw [if_neg e]
      exact q
-- os_ncu
def q_m109 : Nat × SvM := (77, ([(0, none), (-1180591620717411303424, none), (-1180591620717411303424, none), (0, none), (0, none), (0, none), (0, none), (0, none), (0, none), (0, none), (-1180591620717411303424, none), (-1180591620717411303424, none)], [(54, [], [(0, [(3, 1)]), (0, [(4, 1)]), (0, [(5, 1)]), (0, [(6, 1)]), (0, [(7, 1)]), (0, [(8, 1)]), (0, [(0, 1)]), (0, [(9, 1)]), (0, [(10, 1)]), (0, [(11, 1)])]), (0, [], [(0, [(1, 1), (11, -1)])])], [(54, [], [(0, [(3, 1)]), (0, [(4, 1)]), (0, [(5, 1)]), (0, [(6, 1)]), (0, [(7, 1)]), (0, [(8, 1)]), (0, [(0, 1)]), (0, [(9, 1)]), (0, [(10, 1)]), (0, [(11, 1)])])]))
theorem q_m109_ok : ∀ (g : Int → Int → Int) (ln : Int → Int) (kf : Int → Nat) (ρ : List Int) (a i x : Int), sv_BOk ρ q_m109.2.1 → (∀ f ∈ q_m109.2.2.1, sv_FQk q_Ks q_Q g ln kf ρ f) → sv_nth ρ 0 = some a → sv_nth ρ 1 = some i → sv_nth ρ 2 = some x → 0 ≤ a → 0 ≤ i → i < ln a → kf a = q_m109.1 → ∀ f ∈ q_m109.2.2.2, sv_FQk q_Ks q_Q (sv_put g a i x) ln kf ρ f := by
  intro g ln kf ρ a i x hb hf n0 n1 n2 p0 p1 p2 p3
  obtain ⟨hl, hb⟩ := hb
  obtain ⟨xcu, r0, rfl, l0⟩ := sv_lens hl
  obtain ⟨xi, r1, rfl, l1⟩ := sv_lens l0
  obtain ⟨xx, r2, rfl, l2⟩ := sv_lens l1
  obtain ⟨xot, r3, rfl, l3⟩ := sv_lens l2
  obtain ⟨xof, r4, rfl, l4⟩ := sv_lens l3
  obtain ⟨xoz, r5, rfl, l5⟩ := sv_lens l4
  obtain ⟨xen, r6, rfl, l6⟩ := sv_lens l5
  obtain ⟨xlv, r7, rfl, l7⟩ := sv_lens l6
  obtain ⟨xlo, r8, rfl, l8⟩ := sv_lens l7
  obtain ⟨xns, r9, rfl, l9⟩ := sv_lens l8
  obtain ⟨xn, r10, rfl, l10⟩ := sv_lens l9
  obtain ⟨xtr, r11, rfl, l11⟩ := sv_lens l10
  obtain rfl := sv_len0 l11
  clear l0 l1 l2 l3 l4 l5 l6 l7 l8 l9 l10 l11 hl
  have bcu : 0 ≤ xcu := (hb 0 _ _ rfl rfl).1
  have bot : 0 ≤ xot := (hb 3 _ _ rfl rfl).1
  have bof : 0 ≤ xof := (hb 4 _ _ rfl rfl).1
  have boz : 0 ≤ xoz := (hb 5 _ _ rfl rfl).1
  have ben : 0 ≤ xen := (hb 6 _ _ rfl rfl).1
  have blv : 0 ≤ xlv := (hb 7 _ _ rfl rfl).1
  have blo : 0 ≤ xlo := (hb 8 _ _ rfl rfl).1
  have bns : 0 ≤ xns := (hb 9 _ _ rfl rfl).1
  clear hb
  obtain rfl : xcu = a := by simpa [sv_nth] using n0
  obtain rfl : xi = i := by simpa [sv_nth] using n1
  obtain rfl : xx = x := by simpa [sv_nth] using n2
  clear n0 n1 n2
  have p3 : kf xcu = 77 := p3
  have h0 := hf _ (List.mem_of_getElem? (i := 0) rfl)
  simp [sv_FQk, sv_FQ, sv_evs, sv_ev, sv_evT, sv_nth, sv_adq, sv_gs, q_Ks_38, q_Q_38] at h0
  have h1 := hf _ (List.mem_of_getElem? (i := 1) rfl)
  simp [sv_FQk, sv_FQ, sv_evs, sv_ev, sv_evT, sv_nth, sv_adq, sv_gs] at h1
  clear hf
  obtain ⟨⟨⟨-, Kot⟩, ⟨-, Kof⟩, ⟨-, Koz⟩, ⟨-, Ken⟩, ⟨-, Klv⟩, ⟨-, Klo⟩, ⟨-, Kcu⟩, ⟨-, Kns⟩⟩, h0⟩ := h0
  rw [sv_Qos_iff] at h0
  have eot : sv_put g xcu xi xx xot = g xot := sv_put_ne (sv_kf_ne Kot p3 (by decide))
  have eof : sv_put g xcu xi xx xof = g xof := sv_put_ne (sv_kf_ne Kof p3 (by decide))
  have eoz : sv_put g xcu xi xx xoz = g xoz := sv_put_ne (sv_kf_ne Koz p3 (by decide))
  have een : sv_put g xcu xi xx xen = g xen := sv_put_ne (sv_kf_ne Ken p3 (by decide))
  have elv : sv_put g xcu xi xx xlv = g xlv := sv_put_ne (sv_kf_ne Klv p3 (by decide))
  have elo : sv_put g xcu xi xx xlo = g xlo := sv_put_ne (sv_kf_ne Klo p3 (by decide))
  have ens : sv_put g xcu xi xx xns = g xns := sv_put_ne (sv_kf_ne Kns p3 (by decide))
  intro f hf
  have hf : f ∈ [(54, [], [(0, [(3, 1)]), (0, [(4, 1)]), (0, [(5, 1)]), (0, [(6, 1)]), (0, [(7, 1)]), (0, [(8, 1)]), (0, [(0, 1)]), (0, [(9, 1)]), (0, [(10, 1)]), (0, [(11, 1)])])] := hf
  simp only [List.mem_cons, List.not_mem_nil, or_false] at hf
  subst hf
  · simp [sv_FQk, sv_FQ, sv_evs, sv_ev, sv_evT, sv_nth, sv_adq, sv_gs, q_Ks_38, q_Q_38]
    refine ⟨⟨⟨bot, Kot⟩, ⟨bof, Kof⟩, ⟨boz, Koz⟩, ⟨ben, Ken⟩, ⟨blv, Klv⟩, ⟨blo, Klo⟩, ⟨bcu, Kcu⟩, ⟨bns, Kns⟩⟩, ?_⟩
    rw [sv_Qos_iff]
    simp only [sv_put_eq, eot, eof, eoz, een, elv, elo, ens]
    intro o o1 o2
    have q := h0 o o1 o2
    rw [if_neg (by omega)]
    exact q
-- os_ccu
def q_m110 : Nat × SvM := (77, ([(0, none), (-1180591620717411303424, none), (-1180591620717411303424, none), (0, none), (0, none), (0, none), (0, none), (0, none), (0, none), (0, none), (-1180591620717411303424, none), (-1180591620717411303424, none), (-1180591620717411303424, none), (-1180591620717411303424, none)], [(54, [], [(0, [(3, 1)]), (0, [(4, 1)]), (0, [(5, 1)]), (0, [(6, 1)]), (0, [(7, 1)]), (0, [(8, 1)]), (0, [(0, 1)]), (0, [(9, 1)]), (0, [(10, 1)]), (0, [(11, 1)])]), (4, [77, 1], [(0, [(0, 1)]), (0, [(1, 1)]), (0, [(12, 1)])]), (2, [], [(0, [(0, 1)]), (0, [(13, 1)])]), (0, [], [(0, [(1, 1)])]), (0, [], [(-1, [(1, -1), (13, 1)])]), (0, [], [(0, [(2, 1), (12, -1)])])], [(54, [], [(0, [(3, 1)]), (0, [(4, 1)]), (0, [(5, 1)]), (0, [(6, 1)]), (0, [(7, 1)]), (0, [(8, 1)]), (0, [(0, 1)]), (0, [(9, 1)]), (0, [(10, 1)]), (0, [(11, 1)])])]))
theorem q_m110_ok : ∀ (g : Int → Int → Int) (ln : Int → Int) (kf : Int → Nat) (ρ : List Int) (a i x : Int), sv_BOk ρ q_m110.2.1 → (∀ f ∈ q_m110.2.2.1, sv_FQk q_Ks q_Q g ln kf ρ f) → sv_nth ρ 0 = some a → sv_nth ρ 1 = some i → sv_nth ρ 2 = some x → 0 ≤ a → 0 ≤ i → i < ln a → kf a = q_m110.1 → ∀ f ∈ q_m110.2.2.2, sv_FQk q_Ks q_Q (sv_put g a i x) ln kf ρ f := by
  intro g ln kf ρ a i x hb hf n0 n1 n2 p0 p1 p2 p3
  obtain ⟨hl, hb⟩ := hb
  obtain ⟨xcu, r0, rfl, l0⟩ := sv_lens hl
  obtain ⟨xi, r1, rfl, l1⟩ := sv_lens l0
  obtain ⟨xx, r2, rfl, l2⟩ := sv_lens l1
  obtain ⟨xot, r3, rfl, l3⟩ := sv_lens l2
  obtain ⟨xof, r4, rfl, l4⟩ := sv_lens l3
  obtain ⟨xoz, r5, rfl, l5⟩ := sv_lens l4
  obtain ⟨xen, r6, rfl, l6⟩ := sv_lens l5
  obtain ⟨xlv, r7, rfl, l7⟩ := sv_lens l6
  obtain ⟨xlo, r8, rfl, l8⟩ := sv_lens l7
  obtain ⟨xns, r9, rfl, l9⟩ := sv_lens l8
  obtain ⟨xn, r10, rfl, l10⟩ := sv_lens l9
  obtain ⟨xtr, r11, rfl, l11⟩ := sv_lens l10
  obtain ⟨xy, r12, rfl, l12⟩ := sv_lens l11
  obtain ⟨xN, r13, rfl, l13⟩ := sv_lens l12
  obtain rfl := sv_len0 l13
  clear l0 l1 l2 l3 l4 l5 l6 l7 l8 l9 l10 l11 l12 l13 hl
  have bcu : 0 ≤ xcu := (hb 0 _ _ rfl rfl).1
  have bot : 0 ≤ xot := (hb 3 _ _ rfl rfl).1
  have bof : 0 ≤ xof := (hb 4 _ _ rfl rfl).1
  have boz : 0 ≤ xoz := (hb 5 _ _ rfl rfl).1
  have ben : 0 ≤ xen := (hb 6 _ _ rfl rfl).1
  have blv : 0 ≤ xlv := (hb 7 _ _ rfl rfl).1
  have blo : 0 ≤ xlo := (hb 8 _ _ rfl rfl).1
  have bns : 0 ≤ xns := (hb 9 _ _ rfl rfl).1
  clear hb
  obtain rfl : xcu = a := by simpa [sv_nth] using n0
  obtain rfl : xi = i := by simpa [sv_nth] using n1
  obtain rfl : xx = x := by simpa [sv_nth] using n2
  clear n0 n1 n2
  have p3 : kf xcu = 77 := p3
  have h0 := hf _ (List.mem_of_getElem? (i := 0) rfl)
  simp [sv_FQk, sv_FQ, sv_evs, sv_ev, sv_evT, sv_nth, sv_adq, sv_gs, q_Ks_38, q_Q_38] at h0
  have h1 := hf _ (List.mem_of_getElem? (i := 1) rfl)
  simp [sv_FQk, sv_FQ, sv_evs, sv_ev, sv_evT, sv_nth, sv_adq, sv_gs] at h1
  have h2 := hf _ (List.mem_of_getElem? (i := 2) rfl)
  simp [sv_FQk, sv_FQ, sv_evs, sv_ev, sv_evT, sv_nth, sv_adq, sv_gs] at h2
  have h3 := hf _ (List.mem_of_getElem? (i := 3) rfl)
  simp [sv_FQk, sv_FQ, sv_evs, sv_ev, sv_evT, sv_nth, sv_adq, sv_gs] at h3
  have h4 := hf _ (List.mem_of_getElem? (i := 4) rfl)
  simp [sv_FQk, sv_FQ, sv_evs, sv_ev, sv_evT, sv_nth, sv_adq, sv_gs] at h4
  have h5 := hf _ (List.mem_of_getElem? (i := 5) rfl)
  simp [sv_FQk, sv_FQ, sv_evs, sv_ev, sv_evT, sv_nth, sv_adq, sv_gs] at h5
  clear hf
  obtain ⟨⟨⟨-, Kot⟩, ⟨-, Kof⟩, ⟨-, Koz⟩, ⟨-, Ken⟩, ⟨-, Klv⟩, ⟨-, Klo⟩, ⟨-, Kcu⟩, ⟨-, Kns⟩⟩, h0⟩ := h0
  rw [sv_Qos_iff] at h0
  replace h1 := h1 bcu (by omega) (by have := h2 bcu; omega)
  have eot : sv_put g xcu xi xx xot = g xot := sv_put_ne (sv_kf_ne Kot p3 (by decide))
  have eof : sv_put g xcu xi xx xof = g xof := sv_put_ne (sv_kf_ne Kof p3 (by decide))
  have eoz : sv_put g xcu xi xx xoz = g xoz := sv_put_ne (sv_kf_ne Koz p3 (by decide))
  have een : sv_put g xcu xi xx xen = g xen := sv_put_ne (sv_kf_ne Ken p3 (by decide))
  have elv : sv_put g xcu xi xx xlv = g xlv := sv_put_ne (sv_kf_ne Klv p3 (by decide))
  have elo : sv_put g xcu xi xx xlo = g xlo := sv_put_ne (sv_kf_ne Klo p3 (by decide))
  have ens : sv_put g xcu xi xx xns = g xns := sv_put_ne (sv_kf_ne Kns p3 (by decide))
  intro f hf
  have hf : f ∈ [(54, [], [(0, [(3, 1)]), (0, [(4, 1)]), (0, [(5, 1)]), (0, [(6, 1)]), (0, [(7, 1)]), (0, [(8, 1)]), (0, [(0, 1)]), (0, [(9, 1)]), (0, [(10, 1)]), (0, [(11, 1)])])] := hf
  simp only [List.mem_cons, List.not_mem_nil, or_false] at hf
  subst hf
  · simp [sv_FQk, sv_FQ, sv_evs, sv_ev, sv_evT, sv_nth, sv_adq, sv_gs, q_Ks_38, q_Q_38]
    refine ⟨⟨⟨bot, Kot⟩, ⟨bof, Kof⟩, ⟨boz, Koz⟩, ⟨ben, Ken⟩, ⟨blv, Klv⟩, ⟨blo, Klo⟩, ⟨bcu, Kcu⟩, ⟨bns, Kns⟩⟩, ?_⟩
    rw [sv_Qos_iff]
    simp only [sv_put_eq, eot, eof, eoz, een, elv, elo, ens]
    intro o o1 o2
    have q := h0 o o1 o2
    by_cases e : g xot o = xi
    · rw [if_pos e]
      have u : g xcu (g xot o) = xy := by
        rw [e]
        exact h1
      obtain ⟨q1, q2, q3, q4, q5, q6⟩ := q
      exact ⟨q1, q2, q3, q4, by omega, q6⟩
    · rw [if_neg e]
      exact q
-- os_nns
def q_m111 : Nat × SvM := (78, ([(0, none), (-1180591620717411303424, none), (-1180591620717411303424, none), (0, none), (0, none), (0, none), (0, none), (0, none), (0, none), (0, none), (-1180591620717411303424, none), (-1180591620717411303424, none)], [(54, [], [(0, [(3, 1)]), (0, [(4, 1)]), (0, [(5, 1)]), (0, [(6, 1)]), (0, [(7, 1)]), (0, [(8, 1)]), (0, [(9, 1)]), (0, [(0, 1)]), (0, [(10, 1)]), (0, [(11, 1)])]), (0, [], [(0, [(1, 1), (11, -1)])])], [(54, [], [(0, [(3, 1)]), (0, [(4, 1)]), (0, [(5, 1)]), (0, [(6, 1)]), (0, [(7, 1)]), (0, [(8, 1)]), (0, [(9, 1)]), (0, [(0, 1)]), (0, [(10, 1)]), (0, [(11, 1)])])]))
theorem q_m111_ok : ∀ (g : Int → Int → Int) (ln : Int → Int) (kf : Int → Nat) (ρ : List Int) (a i x : Int), sv_BOk ρ q_m111.2.1 → (∀ f ∈ q_m111.2.2.1, sv_FQk q_Ks q_Q g ln kf ρ f) → sv_nth ρ 0 = some a → sv_nth ρ 1 = some i → sv_nth ρ 2 = some x → 0 ≤ a → 0 ≤ i → i < ln a → kf a = q_m111.1 → ∀ f ∈ q_m111.2.2.2, sv_FQk q_Ks q_Q (sv_put g a i x) ln kf ρ f := by
  intro g ln kf ρ a i x hb hf n0 n1 n2 p0 p1 p2 p3
  obtain ⟨hl, hb⟩ := hb
  obtain ⟨xns, r0, rfl, l0⟩ := sv_lens hl
  obtain ⟨xi, r1, rfl, l1⟩ := sv_lens l0
  obtain ⟨xx, r2, rfl, l2⟩ := sv_lens l1
  obtain ⟨xot, r3, rfl, l3⟩ := sv_lens l2
  obtain ⟨xof, r4, rfl, l4⟩ := sv_lens l3
  obtain ⟨xoz, r5, rfl, l5⟩ := sv_lens l4
  obtain ⟨xen, r6, rfl, l6⟩ := sv_lens l5
  obtain ⟨xlv, r7, rfl, l7⟩ := sv_lens l6
  obtain ⟨xlo, r8, rfl, l8⟩ := sv_lens l7
  obtain ⟨xcu, r9, rfl, l9⟩ := sv_lens l8
  obtain ⟨xn, r10, rfl, l10⟩ := sv_lens l9
  obtain ⟨xtr, r11, rfl, l11⟩ := sv_lens l10
  obtain rfl := sv_len0 l11
  clear l0 l1 l2 l3 l4 l5 l6 l7 l8 l9 l10 l11 hl
  have bns : 0 ≤ xns := (hb 0 _ _ rfl rfl).1
  have bot : 0 ≤ xot := (hb 3 _ _ rfl rfl).1
  have bof : 0 ≤ xof := (hb 4 _ _ rfl rfl).1
  have boz : 0 ≤ xoz := (hb 5 _ _ rfl rfl).1
  have ben : 0 ≤ xen := (hb 6 _ _ rfl rfl).1
  have blv : 0 ≤ xlv := (hb 7 _ _ rfl rfl).1
  have blo : 0 ≤ xlo := (hb 8 _ _ rfl rfl).1
  have bcu : 0 ≤ xcu := (hb 9 _ _ rfl rfl).1
  clear hb
  obtain rfl : xns = a := by simpa [sv_nth] using n0
  obtain rfl : xi = i := by simpa [sv_nth] using n1
  obtain rfl : xx = x := by simpa [sv_nth] using n2
  clear n0 n1 n2
  have p3 : kf xns = 78 := p3
  have h0 := hf _ (List.mem_of_getElem? (i := 0) rfl)
  simp [sv_FQk, sv_FQ, sv_evs, sv_ev, sv_evT, sv_nth, sv_adq, sv_gs, q_Ks_38, q_Q_38] at h0
  have h1 := hf _ (List.mem_of_getElem? (i := 1) rfl)
  simp [sv_FQk, sv_FQ, sv_evs, sv_ev, sv_evT, sv_nth, sv_adq, sv_gs] at h1
  clear hf
  obtain ⟨⟨⟨-, Kot⟩, ⟨-, Kof⟩, ⟨-, Koz⟩, ⟨-, Ken⟩, ⟨-, Klv⟩, ⟨-, Klo⟩, ⟨-, Kcu⟩, ⟨-, Kns⟩⟩, h0⟩ := h0
  rw [sv_Qos_iff] at h0
  have eot : sv_put g xns xi xx xot = g xot := sv_put_ne (sv_kf_ne Kot p3 (by decide))
  have eof : sv_put g xns xi xx xof = g xof := sv_put_ne (sv_kf_ne Kof p3 (by decide))
  have eoz : sv_put g xns xi xx xoz = g xoz := sv_put_ne (sv_kf_ne Koz p3 (by decide))
  have een : sv_put g xns xi xx xen = g xen := sv_put_ne (sv_kf_ne Ken p3 (by decide))
  have elv : sv_put g xns xi xx xlv = g xlv := sv_put_ne (sv_kf_ne Klv p3 (by decide))
  have elo : sv_put g xns xi xx xlo = g xlo := sv_put_ne (sv_kf_ne Klo p3 (by decide))
  have ecu : sv_put g xns xi xx xcu = g xcu := sv_put_ne (sv_kf_ne Kcu p3 (by decide))
  intro f hf
  have hf : f ∈ [(54, [], [(0, [(3, 1)]), (0, [(4, 1)]), (0, [(5, 1)]), (0, [(6, 1)]), (0, [(7, 1)]), (0, [(8, 1)]), (0, [(9, 1)]), (0, [(0, 1)]), (0, [(10, 1)]), (0, [(11, 1)])])] := hf
  simp only [List.mem_cons, List.not_mem_nil, or_false] at hf
  subst hf
  · simp [sv_FQk, sv_FQ, sv_evs, sv_ev, sv_evT, sv_nth, sv_adq, sv_gs, q_Ks_38, q_Q_38]
    refine ⟨⟨⟨bot, Kot⟩, ⟨bof, Kof⟩, ⟨boz, Koz⟩, ⟨ben, Ken⟩, ⟨blv, Klv⟩, ⟨blo, Klo⟩, ⟨bcu, Kcu⟩, ⟨bns, Kns⟩⟩, ?_⟩
    rw [sv_Qos_iff]
    simp only [sv_put_eq, eot, eof, eoz, een, elv, elo, ecu]
    intro o o1 o2
    have q := h0 o o1 o2
    rw [if_neg (by omega)]
    exact q
-- os_cns
def q_m112 : Nat × SvM := (78, ([(0, none), (-1180591620717411303424, none), (-1180591620717411303424, none), (0, none), (0, none), (0, none), (0, none), (0, none), (0, none), (0, none), (-1180591620717411303424, none), (-1180591620717411303424, none), (-1180591620717411303424, none), (-1180591620717411303424, none)], [(54, [], [(0, [(3, 1)]), (0, [(4, 1)]), (0, [(5, 1)]), (0, [(6, 1)]), (0, [(7, 1)]), (0, [(8, 1)]), (0, [(9, 1)]), (0, [(0, 1)]), (0, [(10, 1)]), (0, [(11, 1)])]), (4, [78, 1], [(0, [(0, 1)]), (0, [(1, 1)]), (0, [(12, 1)])]), (2, [], [(0, [(0, 1)]), (0, [(13, 1)])]), (0, [], [(0, [(1, 1)])]), (0, [], [(-1, [(1, -1), (13, 1)])]), (0, [], [(0, [(2, 1), (12, -1)])])], [(54, [], [(0, [(3, 1)]), (0, [(4, 1)]), (0, [(5, 1)]), (0, [(6, 1)]), (0, [(7, 1)]), (0, [(8, 1)]), (0, [(9, 1)]), (0, [(0, 1)]), (0, [(10, 1)]), (0, [(11, 1)])])]))
theorem q_m112_ok : ∀ (g : Int → Int → Int) (ln : Int → Int) (kf : Int → Nat) (ρ : List Int) (a i x : Int), sv_BOk ρ q_m112.2.1 → (∀ f ∈ q_m112.2.2.1, sv_FQk q_Ks q_Q g ln kf ρ f) → sv_nth ρ 0 = some a → sv_nth ρ 1 = some i → sv_nth ρ 2 = some x → 0 ≤ a → 0 ≤ i → i < ln a → kf a = q_m112.1 → ∀ f ∈ q_m112.2.2.2, sv_FQk q_Ks q_Q (sv_put g a i x) ln kf ρ f := by
  intro g ln kf ρ a i x hb hf n0 n1 n2 p0 p1 p2 p3
  obtain ⟨hl, hb⟩ := hb
  obtain ⟨xns, r0, rfl, l0⟩ := sv_lens hl
  obtain ⟨xi, r1, rfl, l1⟩ := sv_lens l0
  obtain ⟨xx, r2, rfl, l2⟩ := sv_lens l1
  obtain ⟨xot, r3, rfl, l3⟩ := sv_lens l2
  obtain ⟨xof, r4, rfl, l4⟩ := sv_lens l3
  obtain ⟨xoz, r5, rfl, l5⟩ := sv_lens l4
  obtain ⟨xen, r6, rfl, l6⟩ := sv_lens l5
  obtain ⟨xlv, r7, rfl, l7⟩ := sv_lens l6
  obtain ⟨xlo, r8, rfl, l8⟩ := sv_lens l7
  obtain ⟨xcu, r9, rfl, l9⟩ := sv_lens l8
  obtain ⟨xn, r10, rfl, l10⟩ := sv_lens l9
  obtain ⟨xtr, r11, rfl, l11⟩ := sv_lens l10
  obtain ⟨xy, r12, rfl, l12⟩ := sv_lens l11
  obtain ⟨xN, r13, rfl, l13⟩ := sv_lens l12
  obtain rfl := sv_len0 l13
  clear l0 l1 l2 l3 l4 l5 l6 l7 l8 l9 l10 l11 l12 l13 hl
  have bns : 0 ≤ xns := (hb 0 _ _ rfl rfl).1
  have bot : 0 ≤ xot := (hb 3 _ _ rfl rfl).1
  have bof : 0 ≤ xof := (hb 4 _ _ rfl rfl).1
  have boz : 0 ≤ xoz := (hb 5 _ _ rfl rfl).1
  have ben : 0 ≤ xen := (hb 6 _ _ rfl rfl).1
  have blv : 0 ≤ xlv := (hb 7 _ _ rfl rfl).1
  have blo : 0 ≤ xlo := (hb 8 _ _ rfl rfl).1
  have bcu : 0 ≤ xcu := (hb 9 _ _ rfl rfl).1
  clear hb
  obtain rfl : xns = a := by simpa [sv_nth] using n0
  obtain rfl : xi = i := by simpa [sv_nth] using n1
  obtain rfl : xx = x := by simpa [sv_nth] using n2
  clear n0 n1 n2
  have p3 : kf xns = 78 := p3
  have h0 := hf _ (List.mem_of_getElem? (i := 0) rfl)
  simp [sv_FQk, sv_FQ, sv_evs, sv_ev, sv_evT, sv_nth, sv_adq, sv_gs, q_Ks_38, q_Q_38] at h0
  have h1 := hf _ (List.mem_of_getElem? (i := 1) rfl)
  simp [sv_FQk, sv_FQ, sv_evs, sv_ev, sv_evT, sv_nth, sv_adq, sv_gs] at h1
  have h2 := hf _ (List.mem_of_getElem? (i := 2) rfl)
  simp [sv_FQk, sv_FQ, sv_evs, sv_ev, sv_evT, sv_nth, sv_adq, sv_gs] at h2
  have h3 := hf _ (List.mem_of_getElem? (i := 3) rfl)
  simp [sv_FQk, sv_FQ, sv_evs, sv_ev, sv_evT, sv_nth, sv_adq, sv_gs] at h3
  have h4 := hf _ (List.mem_of_getElem? (i := 4) rfl)
  simp [sv_FQk, sv_FQ, sv_evs, sv_ev, sv_evT, sv_nth, sv_adq, sv_gs] at h4
  have h5 := hf _ (List.mem_of_getElem? (i := 5) rfl)
  simp [sv_FQk, sv_FQ, sv_evs, sv_ev, sv_evT, sv_nth, sv_adq, sv_gs] at h5
  clear hf
  obtain ⟨⟨⟨-, Kot⟩, ⟨-, Kof⟩, ⟨-, Koz⟩, ⟨-, Ken⟩, ⟨-, Klv⟩, ⟨-, Klo⟩, ⟨-, Kcu⟩, ⟨-, Kns⟩⟩, h0⟩ := h0
  rw [sv_Qos_iff] at h0
  replace h1 := h1 bns (by omega) (by have := h2 bns; omega)
  have eot : sv_put g xns xi xx xot = g xot := sv_put_ne (sv_kf_ne Kot p3 (by decide))
  have eof : sv_put g xns xi xx xof = g xof := sv_put_ne (sv_kf_ne Kof p3 (by decide))
  have eoz : sv_put g xns xi xx xoz = g xoz := sv_put_ne (sv_kf_ne Koz p3 (by decide))
  have een : sv_put g xns xi xx xen = g xen := sv_put_ne (sv_kf_ne Ken p3 (by decide))
  have elv : sv_put g xns xi xx xlv = g xlv := sv_put_ne (sv_kf_ne Klv p3 (by decide))
  have elo : sv_put g xns xi xx xlo = g xlo := sv_put_ne (sv_kf_ne Klo p3 (by decide))
  have ecu : sv_put g xns xi xx xcu = g xcu := sv_put_ne (sv_kf_ne Kcu p3 (by decide))
  intro f hf
  have hf : f ∈ [(54, [], [(0, [(3, 1)]), (0, [(4, 1)]), (0, [(5, 1)]), (0, [(6, 1)]), (0, [(7, 1)]), (0, [(8, 1)]), (0, [(9, 1)]), (0, [(0, 1)]), (0, [(10, 1)]), (0, [(11, 1)])])] := hf
  simp only [List.mem_cons, List.not_mem_nil, or_false] at hf
  subst hf
  · simp [sv_FQk, sv_FQ, sv_evs, sv_ev, sv_evT, sv_nth, sv_adq, sv_gs, q_Ks_38, q_Q_38]
    refine ⟨⟨⟨bot, Kot⟩, ⟨bof, Kof⟩, ⟨boz, Koz⟩, ⟨ben, Ken⟩, ⟨blv, Klv⟩, ⟨blo, Klo⟩, ⟨bcu, Kcu⟩, ⟨bns, Kns⟩⟩, ?_⟩
    rw [sv_Qos_iff]
    simp only [sv_put_eq, eot, eof, eoz, een, elv, elo, ecu]
    intro o o1 o2
    have q := h0 o o1 o2
    by_cases e : g xot o = xi
    · rw [if_pos e]
      have u : g xns (g xot o) = xy := by
        rw [e]
        exact h1
      obtain ⟨q1, q2, q3, q4, q5, q6⟩ := q
      exact ⟨q1, q2, q3, q4, by omega, q6⟩
    · rw [if_neg e]
      exact q
-- pn_sf
def q_m113 : Nat × SvM := (114, ([(0, none), (-1180591620717411303424, none), (-1180591620717411303424, none), (0, none), (-1180591620717411303424, none), (-1180591620717411303424, none), (-1180591620717411303424, none), (-1180591620717411303424, none), (-1180591620717411303424, none), (-1180591620717411303424, none), (-1180591620717411303424, none)], [(56, [], [(0, [(0, 1)]), (0, [(3, 1)]), (0, [(4, 1)]), (0, [(5, 1)]), (0, [(6, 1)]), (0, [(7, 1)]), (0, [(8, 1)]), (0, [(9, 1)]), (0, [(10, 1)])]), (0, [], [(0, [(1, 1), (4, -1)])])], [(56, [], [(0, [(0, 1)]), (0, [(3, 1)]), (0, [(4, 1)]), (0, [(5, 1)]), (0, [(6, 1)]), (0, [(7, 1)]), (0, [(8, 1)]), (0, [(9, 1)]), (0, [(10, 1)])])]))
theorem q_m113_ok : ∀ (g : Int → Int → Int) (ln : Int → Int) (kf : Int → Nat) (ρ : List Int) (a i x : Int), sv_BOk ρ q_m113.2.1 → (∀ f ∈ q_m113.2.2.1, sv_FQk q_Ks q_Q g ln kf ρ f) → sv_nth ρ 0 = some a → sv_nth ρ 1 = some i → sv_nth ρ 2 = some x → 0 ≤ a → 0 ≤ i → i < ln a → kf a = q_m113.1 → ∀ f ∈ q_m113.2.2.2, sv_FQk q_Ks q_Q (sv_put g a i x) ln kf ρ f := by
  intro g ln kf ρ a i x hb hf n0 n1 n2 p0 p1 p2 p3
  obtain ⟨hl, hb⟩ := hb
  obtain ⟨xpf, r0, rfl, l0⟩ := sv_lens hl
  obtain ⟨xi, r1, rfl, l1⟩ := sv_lens l0
  obtain ⟨xx, r2, rfl, l2⟩ := sv_lens l1
  obtain ⟨xpe, r3, rfl, l3⟩ := sv_lens l2
  obtain ⟨xa, r4, rfl, l4⟩ := sv_lens l3
  obtain ⟨xz, r5, rfl, l5⟩ := sv_lens l4
  obtain ⟨xe, r6, rfl, l6⟩ := sv_lens l5
  obtain ⟨xp, r7, rfl, l7⟩ := sv_lens l6
  obtain ⟨xk, r8, rfl, l8⟩ := sv_lens l7
  obtain ⟨xf, r9, rfl, l9⟩ := sv_lens l8
  obtain ⟨xt, r10, rfl, l10⟩ := sv_lens l9
  obtain rfl := sv_len0 l10
  clear l0 l1 l2 l3 l4 l5 l6 l7 l8 l9 l10 hl
  have bpf : 0 ≤ xpf := (hb 0 _ _ rfl rfl).1
  have bpe : 0 ≤ xpe := (hb 3 _ _ rfl rfl).1
  clear hb
  obtain rfl : xpf = a := by simpa [sv_nth] using n0
  obtain rfl : xi = i := by simpa [sv_nth] using n1
  obtain rfl : xx = x := by simpa [sv_nth] using n2
  clear n0 n1 n2
  have p3 : kf xpf = 114 := p3
  have h0 := hf _ (List.mem_of_getElem? (i := 0) rfl)
  simp [sv_FQk, sv_FQ, sv_evs, sv_ev, sv_evT, sv_nth, sv_adq, sv_gs, q_Ks_40, q_Q_40] at h0
  have h1 := hf _ (List.mem_of_getElem? (i := 1) rfl)
  simp [sv_FQk, sv_FQ, sv_evs, sv_ev, sv_evT, sv_nth, sv_adq, sv_gs] at h1
  clear hf
  obtain ⟨⟨⟨-, Kpf⟩, ⟨-, Kpe⟩⟩, h0⟩ := h0
  rw [sv_Qpn_iff] at h0
  have epe : sv_put g xpf xi xx xpe = g xpe := sv_put_ne (sv_kf_ne Kpe p3 (by decide))
  intro f hf
  have hf : f ∈ [(56, [], [(0, [(0, 1)]), (0, [(3, 1)]), (0, [(4, 1)]), (0, [(5, 1)]), (0, [(6, 1)]), (0, [(7, 1)]), (0, [(8, 1)]), (0, [(9, 1)]), (0, [(10, 1)])])] := hf
  simp only [List.mem_cons, List.not_mem_nil, or_false] at hf
  subst hf
  · simp [sv_FQk, sv_FQ, sv_evs, sv_ev, sv_evT, sv_nth, sv_adq, sv_gs, q_Ks_40, q_Q_40]
    refine ⟨⟨⟨bpf, Kpf⟩, ⟨bpe, Kpe⟩⟩, ?_⟩
    rw [sv_Qpn_iff]
    simp only [sv_put_eq, epe]
    intro a1 a2
    have q := h0 a1 a2
    rw [if_neg (by omega)]
    exact q
-- pn_st
def q_m114 : Nat × SvM := (115, ([(0, none), (-1180591620717411303424, none), (-1180591620717411303424, none), (0, none), (-1180591620717411303424, none), (-1180591620717411303424, none), (-1180591620717411303424, none), (-1180591620717411303424, none), (-1180591620717411303424, none), (-1180591620717411303424, none), (-1180591620717411303424, none)], [(56, [], [(0, [(3, 1)]), (0, [(0, 1)]), (0, [(4, 1)]), (0, [(5, 1)]), (0, [(6, 1)]), (0, [(7, 1)]), (0, [(8, 1)]), (0, [(9, 1)]), (0, [(10, 1)])]), (0, [], [(0, [(1, 1), (4, -1)])])], [(56, [], [(0, [(3, 1)]), (0, [(0, 1)]), (0, [(4, 1)]), (0, [(5, 1)]), (0, [(6, 1)]), (0, [(7, 1)]), (0, [(8, 1)]), (0, [(9, 1)]), (0, [(10, 1)])])]))
theorem q_m114_ok : ∀ (g : Int → Int → Int) (ln : Int → Int) (kf : Int → Nat) (ρ : List Int) (a i x : Int), sv_BOk ρ q_m114.2.1 → (∀ f ∈ q_m114.2.2.1, sv_FQk q_Ks q_Q g ln kf ρ f) → sv_nth ρ 0 = some a → sv_nth ρ 1 = some i → sv_nth ρ 2 = some x → 0 ≤ a → 0 ≤ i → i < ln a → kf a = q_m114.1 → ∀ f ∈ q_m114.2.2.2, sv_FQk q_Ks q_Q (sv_put g a i x) ln kf ρ f := by
  intro g ln kf ρ a i x hb hf n0 n1 n2 p0 p1 p2 p3
  obtain ⟨hl, hb⟩ := hb
  obtain ⟨xpe, r0, rfl, l0⟩ := sv_lens hl
  obtain ⟨xi, r1, rfl, l1⟩ := sv_lens l0
  obtain ⟨xx, r2, rfl, l2⟩ := sv_lens l1
  obtain ⟨xpf, r3, rfl, l3⟩ := sv_lens l2
  obtain ⟨xa, r4, rfl, l4⟩ := sv_lens l3
  obtain ⟨xz, r5, rfl, l5⟩ := sv_lens l4
  obtain ⟨xe, r6, rfl, l6⟩ := sv_lens l5
  obtain ⟨xp, r7, rfl, l7⟩ := sv_lens l6
  obtain ⟨xk, r8, rfl, l8⟩ := sv_lens l7
  obtain ⟨xf, r9, rfl, l9⟩ := sv_lens l8
  obtain ⟨xt, r10, rfl, l10⟩ := sv_lens l9
  obtain rfl := sv_len0 l10
  clear l0 l1 l2 l3 l4 l5 l6 l7 l8 l9 l10 hl
  have bpe : 0 ≤ xpe := (hb 0 _ _ rfl rfl).1
  have bpf : 0 ≤ xpf := (hb 3 _ _ rfl rfl).1
  clear hb
  obtain rfl : xpe = a := by simpa [sv_nth] using n0
  obtain rfl : xi = i := by simpa [sv_nth] using n1
  obtain rfl : xx = x := by simpa [sv_nth] using n2
  clear n0 n1 n2
  have p3 : kf xpe = 115 := p3
  have h0 := hf _ (List.mem_of_getElem? (i := 0) rfl)
  simp [sv_FQk, sv_FQ, sv_evs, sv_ev, sv_evT, sv_nth, sv_adq, sv_gs, q_Ks_40, q_Q_40] at h0
  have h1 := hf _ (List.mem_of_getElem? (i := 1) rfl)
  simp [sv_FQk, sv_FQ, sv_evs, sv_ev, sv_evT, sv_nth, sv_adq, sv_gs] at h1
  clear hf
  obtain ⟨⟨⟨-, Kpf⟩, ⟨-, Kpe⟩⟩, h0⟩ := h0
  rw [sv_Qpn_iff] at h0
  have epf : sv_put g xpe xi xx xpf = g xpf := sv_put_ne (sv_kf_ne Kpf p3 (by decide))
  intro f hf
  have hf : f ∈ [(56, [], [(0, [(3, 1)]), (0, [(0, 1)]), (0, [(4, 1)]), (0, [(5, 1)]), (0, [(6, 1)]), (0, [(7, 1)]), (0, [(8, 1)]), (0, [(9, 1)]), (0, [(10, 1)])])] := hf
  simp only [List.mem_cons, List.not_mem_nil, or_false] at hf
  subst hf
  · simp [sv_FQk, sv_FQ, sv_evs, sv_ev, sv_evT, sv_nth, sv_adq, sv_gs, q_Ks_40, q_Q_40]
    refine ⟨⟨⟨bpf, Kpf⟩, ⟨bpe, Kpe⟩⟩, ?_⟩
    rw [sv_Qpn_iff]
    simp only [sv_put_eq, epf]
    intro a1 a2
    have q := h0 a1 a2
    rw [if_neg (by omega)]
    exact q
-- pt_spk
def q_m115 : Nat × SvM := (113, ([(0, none), (-1180591620717411303424, none), (-1180591620717411303424, none), (0, none), (0, none), (0, none), (0, none), (0, none), (-1180591620717411303424, none), (-1180591620717411303424, none), (-1180591620717411303424, none), (-1180591620717411303424, none)], [(55, [], [(0, [(0, 1)]), (0, [(3, 1)]), (0, [(4, 1)]), (0, [(5, 1)]), (0, [(6, 1)]), (0, [(7, 1)]), (0, [(8, 1)])]), (4, [112, 1], [(0, [(7, 1)]), (0, [(9, 1)]), (0, [(10, 1)])]), (2, [], [(0, [(7, 1)]), (0, [(11, 1)])]), (0, [], [(0, [(9, 1)])]), (0, [], [(-1, [(9, -1), (11, 1)])]), (0, [], [(0, [(10, 1)])]), (0, [], [(119, [(10, -1)])]), (0, [], [(0, [(1, -1), (9, 120), (10, 1)])]), (0, [], [(0, [(1, 1), (9, -120), (10, -1)])])], [(55, [], [(0, [(0, 1)]), (0, [(3, 1)]), (0, [(4, 1)]), (0, [(5, 1)]), (0, [(6, 1)]), (0, [(7, 1)]), (0, [(8, 1)])])]))
theorem q_m115_ok : ∀ (g : Int → Int → Int) (ln : Int → Int) (kf : Int → Nat) (ρ : List Int) (a i x : Int), sv_BOk ρ q_m115.2.1 → (∀ f ∈ q_m115.2.2.1, sv_FQk q_Ks q_Q g ln kf ρ f) → sv_nth ρ 0 = some a → sv_nth ρ 1 = some i → sv_nth ρ 2 = some x → 0 ≤ a → 0 ≤ i → i < ln a → kf a = q_m115.1 → ∀ f ∈ q_m115.2.2.2, sv_FQk q_Ks q_Q (sv_put g a i x) ln kf ρ f := by
  intro g ln kf ρ a i x hb hf n0 n1 n2 p0 p1 p2 p3
  obtain ⟨hl, hb⟩ := hb
  obtain ⟨xpk, r0, rfl, l0⟩ := sv_lens hl
  obtain ⟨xi, r1, rfl, l1⟩ := sv_lens l0
  obtain ⟨xx, r2, rfl, l2⟩ := sv_lens l1
  obtain ⟨xpf, r3, rfl, l3⟩ := sv_lens l2
  obtain ⟨xpe, r4, rfl, l4⟩ := sv_lens l3
  obtain ⟨xpp, r5, rfl, l5⟩ := sv_lens l4
  obtain ⟨xoz, r6, rfl, l6⟩ := sv_lens l5
  obtain ⟨xpo, r7, rfl, l7⟩ := sv_lens l6
  obtain ⟨xn, r8, rfl, l8⟩ := sv_lens l7
  obtain ⟨xo, r9, rfl, l9⟩ := sv_lens l8
  obtain ⟨xy, r10, rfl, l10⟩ := sv_lens l9
  obtain ⟨xN, r11, rfl, l11⟩ := sv_lens l10
  obtain rfl := sv_len0 l11
  clear l0 l1 l2 l3 l4 l5 l6 l7 l8 l9 l10 l11 hl
  have bpk : 0 ≤ xpk := (hb 0 _ _ rfl rfl).1
  have bpf : 0 ≤ xpf := (hb 3 _ _ rfl rfl).1
  have bpe : 0 ≤ xpe := (hb 4 _ _ rfl rfl).1
  have bpp : 0 ≤ xpp := (hb 5 _ _ rfl rfl).1
  have boz : 0 ≤ xoz := (hb 6 _ _ rfl rfl).1
  have bpo : 0 ≤ xpo := (hb 7 _ _ rfl rfl).1
  clear hb
  obtain rfl : xpk = a := by simpa [sv_nth] using n0
  obtain rfl : xi = i := by simpa [sv_nth] using n1
  obtain rfl : xx = x := by simpa [sv_nth] using n2
  clear n0 n1 n2
  have p3 : kf xpk = 113 := p3
  have h0 := hf _ (List.mem_of_getElem? (i := 0) rfl)
  simp [sv_FQk, sv_FQ, sv_evs, sv_ev, sv_evT, sv_nth, sv_adq, sv_gs, q_Ks_39, q_Q_39] at h0
  have h1 := hf _ (List.mem_of_getElem? (i := 1) rfl)
  simp [sv_FQk, sv_FQ, sv_evs, sv_ev, sv_evT, sv_nth, sv_adq, sv_gs] at h1
  have h2 := hf _ (List.mem_of_getElem? (i := 2) rfl)
  simp [sv_FQk, sv_FQ, sv_evs, sv_ev, sv_evT, sv_nth, sv_adq, sv_gs] at h2
  have h3 := hf _ (List.mem_of_getElem? (i := 3) rfl)
  simp [sv_FQk, sv_FQ, sv_evs, sv_ev, sv_evT, sv_nth, sv_adq, sv_gs] at h3
  have h4 := hf _ (List.mem_of_getElem? (i := 4) rfl)
  simp [sv_FQk, sv_FQ, sv_evs, sv_ev, sv_evT, sv_nth, sv_adq, sv_gs] at h4
  have h5 := hf _ (List.mem_of_getElem? (i := 5) rfl)
  simp [sv_FQk, sv_FQ, sv_evs, sv_ev, sv_evT, sv_nth, sv_adq, sv_gs] at h5
  have h6 := hf _ (List.mem_of_getElem? (i := 6) rfl)
  simp [sv_FQk, sv_FQ, sv_evs, sv_ev, sv_evT, sv_nth, sv_adq, sv_gs] at h6
  have h7 := hf _ (List.mem_of_getElem? (i := 7) rfl)
  simp [sv_FQk, sv_FQ, sv_evs, sv_ev, sv_evT, sv_nth, sv_adq, sv_gs] at h7
  have h8 := hf _ (List.mem_of_getElem? (i := 8) rfl)
  simp [sv_FQk, sv_FQ, sv_evs, sv_ev, sv_evT, sv_nth, sv_adq, sv_gs] at h8
  clear hf
  obtain ⟨⟨⟨-, Kpk⟩, ⟨-, Kpf⟩, ⟨-, Kpe⟩, ⟨-, Kpp⟩, ⟨-, Koz⟩, ⟨-, Kpo⟩⟩, h0⟩ := h0
  rw [sv_Qpt_iff] at h0
  replace h1 := h1 bpo (by omega) (by have := h2 bpo; omega)
  have epf : sv_put g xpk xi xx xpf = g xpf := sv_put_ne (sv_kf_ne Kpf p3 (by decide))
  have epe : sv_put g xpk xi xx xpe = g xpe := sv_put_ne (sv_kf_ne Kpe p3 (by decide))
  have epp : sv_put g xpk xi xx xpp = g xpp := sv_put_ne (sv_kf_ne Kpp p3 (by decide))
  have eoz : sv_put g xpk xi xx xoz = g xoz := sv_put_ne (sv_kf_ne Koz p3 (by decide))
  have epo : sv_put g xpk xi xx xpo = g xpo := sv_put_ne (sv_kf_ne Kpo p3 (by decide))
  intro f hf
  have hf : f ∈ [(55, [], [(0, [(0, 1)]), (0, [(3, 1)]), (0, [(4, 1)]), (0, [(5, 1)]), (0, [(6, 1)]), (0, [(7, 1)]), (0, [(8, 1)])])] := hf
  simp only [List.mem_cons, List.not_mem_nil, or_false] at hf
  subst hf
  · simp [sv_FQk, sv_FQ, sv_evs, sv_ev, sv_evT, sv_nth, sv_adq, sv_gs, q_Ks_39, q_Q_39]
    refine ⟨⟨⟨bpk, Kpk⟩, ⟨bpf, Kpf⟩, ⟨bpe, Kpe⟩, ⟨bpp, Kpp⟩, ⟨boz, Koz⟩, ⟨bpo, Kpo⟩⟩, ?_⟩
    rw [sv_Qpt_iff]
    simp only [sv_put_eq, epf, epe, epp, eoz, epo]
    intro o i o1 o2 i1 i2 i3 hk
    have n1 : ¬ 120 * o + i = xi := by
      intro e
      have eo : o = xo := by omega
      rw [eo] at i2
      omega
    try rw [if_neg n1] at hk
    have q := h0 o i o1 o2 i1 i2 i3 hk
    have q0 := q.1
    have n2 : ¬ 120 * o + (i - 1) = xi := by
      intro e
      have eo : o = xo := by omega
      rw [eo] at i2
      omega
    try rw [if_neg n1]
    try rw [if_neg n2]
    exact q
-- pt_spf
def q_m116 : Nat × SvM := (114, ([(0, none), (-1180591620717411303424, none), (-1180591620717411303424, none), (0, none), (0, none), (0, none), (0, none), (0, none), (-1180591620717411303424, none), (-1180591620717411303424, none), (-1180591620717411303424, none), (-1180591620717411303424, none)], [(55, [], [(0, [(3, 1)]), (0, [(0, 1)]), (0, [(4, 1)]), (0, [(5, 1)]), (0, [(6, 1)]), (0, [(7, 1)]), (0, [(8, 1)])]), (4, [112, 1], [(0, [(7, 1)]), (0, [(9, 1)]), (0, [(10, 1)])]), (2, [], [(0, [(7, 1)]), (0, [(11, 1)])]), (0, [], [(0, [(9, 1)])]), (0, [], [(-1, [(9, -1), (11, 1)])]), (0, [], [(0, [(10, 1)])]), (0, [], [(119, [(10, -1)])]), (0, [], [(0, [(1, -1), (9, 120), (10, 1)])]), (0, [], [(0, [(1, 1), (9, -120), (10, -1)])])], [(55, [], [(0, [(3, 1)]), (0, [(0, 1)]), (0, [(4, 1)]), (0, [(5, 1)]), (0, [(6, 1)]), (0, [(7, 1)]), (0, [(8, 1)])])]))
theorem q_m116_ok : ∀ (g : Int → Int → Int) (ln : Int → Int) (kf : Int → Nat) (ρ : List Int) (a i x : Int), sv_BOk ρ q_m116.2.1 → (∀ f ∈ q_m116.2.2.1, sv_FQk q_Ks q_Q g ln kf ρ f) → sv_nth ρ 0 = some a → sv_nth ρ 1 = some i → sv_nth ρ 2 = some x → 0 ≤ a → 0 ≤ i → i < ln a → kf a = q_m116.1 → ∀ f ∈ q_m116.2.2.2, sv_FQk q_Ks q_Q (sv_put g a i x) ln kf ρ f := by
  intro g ln kf ρ a i x hb hf n0 n1 n2 p0 p1 p2 p3
  obtain ⟨hl, hb⟩ := hb
  obtain ⟨xpf, r0, rfl, l0⟩ := sv_lens hl
  obtain ⟨xi, r1, rfl, l1⟩ := sv_lens l0
  obtain ⟨xx, r2, rfl, l2⟩ := sv_lens l1
  obtain ⟨xpk, r3, rfl, l3⟩ := sv_lens l2
  obtain ⟨xpe, r4, rfl, l4⟩ := sv_lens l3
  obtain ⟨xpp, r5, rfl, l5⟩ := sv_lens l4
  obtain ⟨xoz, r6, rfl, l6⟩ := sv_lens l5
  obtain ⟨xpo, r7, rfl, l7⟩ := sv_lens l6
  obtain ⟨xn, r8, rfl, l8⟩ := sv_lens l7
  obtain ⟨xo, r9, rfl, l9⟩ := sv_lens l8
  obtain ⟨xy, r10, rfl, l10⟩ := sv_lens l9
  obtain ⟨xN, r11, rfl, l11⟩ := sv_lens l10
  obtain rfl := sv_len0 l11
  clear l0 l1 l2 l3 l4 l5 l6 l7 l8 l9 l10 l11 hl
  have bpf : 0 ≤ xpf := (hb 0 _ _ rfl rfl).1
  have bpk : 0 ≤ xpk := (hb 3 _ _ rfl rfl).1
  have bpe : 0 ≤ xpe := (hb 4 _ _ rfl rfl).1
  have bpp : 0 ≤ xpp := (hb 5 _ _ rfl rfl).1
  have boz : 0 ≤ xoz := (hb 6 _ _ rfl rfl).1
  have bpo : 0 ≤ xpo := (hb 7 _ _ rfl rfl).1
  clear hb
  obtain rfl : xpf = a := by simpa [sv_nth] using n0
  obtain rfl : xi = i := by simpa [sv_nth] using n1
  obtain rfl : xx = x := by simpa [sv_nth] using n2
  clear n0 n1 n2
  have p3 : kf xpf = 114 := p3
  have h0 := hf _ (List.mem_of_getElem? (i := 0) rfl)
  simp [sv_FQk, sv_FQ, sv_evs, sv_ev, sv_evT, sv_nth, sv_adq, sv_gs, q_Ks_39, q_Q_39] at h0
  have h1 := hf _ (List.mem_of_getElem? (i := 1) rfl)
  simp [sv_FQk, sv_FQ, sv_evs, sv_ev, sv_evT, sv_nth, sv_adq, sv_gs] at h1
  have h2 := hf _ (List.mem_of_getElem? (i := 2) rfl)
  simp [sv_FQk, sv_FQ, sv_evs, sv_ev, sv_evT, sv_nth, sv_adq, sv_gs] at h2
  have h3 := hf _ (List.mem_of_getElem? (i := 3) rfl)
  simp [sv_FQk, sv_FQ, sv_evs, sv_ev, sv_evT, sv_nth, sv_adq, sv_gs] at h3
  have h4 := hf _ (List.mem_of_getElem? (i := 4) rfl)
  simp [sv_FQk, sv_FQ, sv_evs, sv_ev, sv_evT, sv_nth, sv_adq, sv_gs] at h4
  have h5 := hf _ (List.mem_of_getElem? (i := 5) rfl)
  simp [sv_FQk, sv_FQ, sv_evs, sv_ev, sv_evT, sv_nth, sv_adq, sv_gs] at h5
  have h6 := hf _ (List.mem_of_getElem? (i := 6) rfl)
  simp [sv_FQk, sv_FQ, sv_evs, sv_ev, sv_evT, sv_nth, sv_adq, sv_gs] at h6
  have h7 := hf _ (List.mem_of_getElem? (i := 7) rfl)
  simp [sv_FQk, sv_FQ, sv_evs, sv_ev, sv_evT, sv_nth, sv_adq, sv_gs] at h7
  have h8 := hf _ (List.mem_of_getElem? (i := 8) rfl)
  simp [sv_FQk, sv_FQ, sv_evs, sv_ev, sv_evT, sv_nth, sv_adq, sv_gs] at h8
  clear hf
  obtain ⟨⟨⟨-, Kpk⟩, ⟨-, Kpf⟩, ⟨-, Kpe⟩, ⟨-, Kpp⟩, ⟨-, Koz⟩, ⟨-, Kpo⟩⟩, h0⟩ := h0
  rw [sv_Qpt_iff] at h0
  replace h1 := h1 bpo (by omega) (by have := h2 bpo; omega)
  have epk : sv_put g xpf xi xx xpk = g xpk := sv_put_ne (sv_kf_ne Kpk p3 (by decide))
  have epe : sv_put g xpf xi xx xpe = g xpe := sv_put_ne (sv_kf_ne Kpe p3 (by decide))
  have epp : sv_put g xpf xi xx xpp = g xpp := sv_put_ne (sv_kf_ne Kpp p3 (by decide))
  have eoz : sv_put g xpf xi xx xoz = g xoz := sv_put_ne (sv_kf_ne Koz p3 (by decide))
  have epo : sv_put g xpf xi xx xpo = g xpo := sv_put_ne (sv_kf_ne Kpo p3 (by decide))
  intro f hf
  have hf : f ∈ [(55, [], [(0, [(3, 1)]), (0, [(0, 1)]), (0, [(4, 1)]), (0, [(5, 1)]), (0, [(6, 1)]), (0, [(7, 1)]), (0, [(8, 1)])])] := hf
  simp only [List.mem_cons, List.not_mem_nil, or_false] at hf
  subst hf
  · simp [sv_FQk, sv_FQ, sv_evs, sv_ev, sv_evT, sv_nth, sv_adq, sv_gs, q_Ks_39, q_Q_39]
    refine ⟨⟨⟨bpk, Kpk⟩, ⟨bpf, Kpf⟩, ⟨bpe, Kpe⟩, ⟨bpp, Kpp⟩, ⟨boz, Koz⟩, ⟨bpo, Kpo⟩⟩, ?_⟩
    rw [sv_Qpt_iff]
    simp only [sv_put_eq, epk, epe, epp, eoz, epo]
    intro o i o1 o2 i1 i2 i3 hk
    have n1 : ¬ 120 * o + i = xi := by
      intro e
      have eo : o = xo := by omega
      rw [eo] at i2
      omega
    try rw [if_neg n1] at hk
    have q := h0 o i o1 o2 i1 i2 i3 hk
    have q0 := q.1
    have n2 : ¬ 120 * o + (i - 1) = xi := by
      intro e
      have eo : o = xo := by omega
      rw [eo] at i2
      omega
    try rw [if_neg n1]
    try rw [if_neg n2]
    exact q
-- pt_spe
def q_m117 : Nat × SvM := (115, ([(0, none), (-1180591620717411303424, none), (-1180591620717411303424, none), (0, none), (0, none), (0, none), (0, none), (0, none), (-1180591620717411303424, none), (-1180591620717411303424, none), (-1180591620717411303424, none), (-1180591620717411303424, none)], [(55, [], [(0, [(3, 1)]), (0, [(4, 1)]), (0, [(0, 1)]), (0, [(5, 1)]), (0, [(6, 1)]), (0, [(7, 1)]), (0, [(8, 1)])]), (4, [112, 1], [(0, [(7, 1)]), (0, [(9, 1)]), (0, [(10, 1)])]), (2, [], [(0, [(7, 1)]), (0, [(11, 1)])]), (0, [], [(0, [(9, 1)])]), (0, [], [(-1, [(9, -1), (11, 1)])]), (0, [], [(0, [(10, 1)])]), (0, [], [(119, [(10, -1)])]), (0, [], [(0, [(1, -1), (9, 120), (10, 1)])]), (0, [], [(0, [(1, 1), (9, -120), (10, -1)])])], [(55, [], [(0, [(3, 1)]), (0, [(4, 1)]), (0, [(0, 1)]), (0, [(5, 1)]), (0, [(6, 1)]), (0, [(7, 1)]), (0, [(8, 1)])])]))
theorem q_m117_ok : ∀ (g : Int → Int → Int) (ln : Int → Int) (kf : Int → Nat) (ρ : List Int) (a i x : Int), sv_BOk ρ q_m117.2.1 → (∀ f ∈ q_m117.2.2.1, sv_FQk q_Ks q_Q g ln kf ρ f) → sv_nth ρ 0 = some a → sv_nth ρ 1 = some i → sv_nth ρ 2 = some x → 0 ≤ a → 0 ≤ i → i < ln a → kf a = q_m117.1 → ∀ f ∈ q_m117.2.2.2, sv_FQk q_Ks q_Q (sv_put g a i x) ln kf ρ f := by
  intro g ln kf ρ a i x hb hf n0 n1 n2 p0 p1 p2 p3
  obtain ⟨hl, hb⟩ := hb
  obtain ⟨xpe, r0, rfl, l0⟩ := sv_lens hl
  obtain ⟨xi, r1, rfl, l1⟩ := sv_lens l0
  obtain ⟨xx, r2, rfl, l2⟩ := sv_lens l1
  obtain ⟨xpk, r3, rfl, l3⟩ := sv_lens l2
  obtain ⟨xpf, r4, rfl, l4⟩ := sv_lens l3
  obtain ⟨xpp, r5, rfl, l5⟩ := sv_lens l4
  obtain ⟨xoz, r6, rfl, l6⟩ := sv_lens l5
  obtain ⟨xpo, r7, rfl, l7⟩ := sv_lens l6
  obtain ⟨xn, r8, rfl, l8⟩ := sv_lens l7
  obtain ⟨xo, r9, rfl, l9⟩ := sv_lens l8
  obtain ⟨xy, r10, rfl, l10⟩ := sv_lens l9
  obtain ⟨xN, r11, rfl, l11⟩ := sv_lens l10
  obtain rfl := sv_len0 l11
  clear l0 l1 l2 l3 l4 l5 l6 l7 l8 l9 l10 l11 hl
  have bpe : 0 ≤ xpe := (hb 0 _ _ rfl rfl).1
  have bpk : 0 ≤ xpk := (hb 3 _ _ rfl rfl).1
  have bpf : 0 ≤ xpf := (hb 4 _ _ rfl rfl).1
  have bpp : 0 ≤ xpp := (hb 5 _ _ rfl rfl).1
  have boz : 0 ≤ xoz := (hb 6 _ _ rfl rfl).1
  have bpo : 0 ≤ xpo := (hb 7 _ _ rfl rfl).1
  clear hb
  obtain rfl : xpe = a := by simpa [sv_nth] using n0
  obtain rfl : xi = i := by simpa [sv_nth] using n1
  obtain rfl : xx = x := by simpa [sv_nth] using n2
  clear n0 n1 n2
  have p3 : kf xpe = 115 := p3
  have h0 := hf _ (List.mem_of_getElem? (i := 0) rfl)
  simp [sv_FQk, sv_FQ, sv_evs, sv_ev, sv_evT, sv_nth, sv_adq, sv_gs, q_Ks_39, q_Q_39] at h0
  have h1 := hf _ (List.mem_of_getElem? (i := 1) rfl)
  simp [sv_FQk, sv_FQ, sv_evs, sv_ev, sv_evT, sv_nth, sv_adq, sv_gs] at h1
  have h2 := hf _ (List.mem_of_getElem? (i := 2) rfl)
  simp [sv_FQk, sv_FQ, sv_evs, sv_ev, sv_evT, sv_nth, sv_adq, sv_gs] at h2
  have h3 := hf _ (List.mem_of_getElem? (i := 3) rfl)
  simp [sv_FQk, sv_FQ, sv_evs, sv_ev, sv_evT, sv_nth, sv_adq, sv_gs] at h3
  have h4 := hf _ (List.mem_of_getElem? (i := 4) rfl)
  simp [sv_FQk, sv_FQ, sv_evs, sv_ev, sv_evT, sv_nth, sv_adq, sv_gs] at h4
  have h5 := hf _ (List.mem_of_getElem? (i := 5) rfl)
  simp [sv_FQk, sv_FQ, sv_evs, sv_ev, sv_evT, sv_nth, sv_adq, sv_gs] at h5
  have h6 := hf _ (List.mem_of_getElem? (i := 6) rfl)
  simp [sv_FQk, sv_FQ, sv_evs, sv_ev, sv_evT, sv_nth, sv_adq, sv_gs] at h6
  have h7 := hf _ (List.mem_of_getElem? (i := 7) rfl)
  simp [sv_FQk, sv_FQ, sv_evs, sv_ev, sv_evT, sv_nth, sv_adq, sv_gs] at h7
  have h8 := hf _ (List.mem_of_getElem? (i := 8) rfl)
  simp [sv_FQk, sv_FQ, sv_evs, sv_ev, sv_evT, sv_nth, sv_adq, sv_gs] at h8
  clear hf
  obtain ⟨⟨⟨-, Kpk⟩, ⟨-, Kpf⟩, ⟨-, Kpe⟩, ⟨-, Kpp⟩, ⟨-, Koz⟩, ⟨-, Kpo⟩⟩, h0⟩ := h0
  rw [sv_Qpt_iff] at h0
  replace h1 := h1 bpo (by omega) (by have := h2 bpo; omega)
  have epk : sv_put g xpe xi xx xpk = g xpk := sv_put_ne (sv_kf_ne Kpk p3 (by decide))
  have epf : sv_put g xpe xi xx xpf = g xpf := sv_put_ne (sv_kf_ne Kpf p3 (by decide))
  have epp : sv_put g xpe xi xx xpp = g xpp := sv_put_ne (sv_kf_ne Kpp p3 (by decide))
  have eoz : sv_put g xpe xi xx xoz = g xoz := sv_put_ne (sv_kf_ne Koz p3 (by decide))
  have epo : sv_put g xpe xi xx xpo = g xpo := sv_put_ne (sv_kf_ne Kpo p3 (by decide))
  intro f hf
  have hf : f ∈ [(55, [], [(0, [(3, 1)]), (0, [(4, 1)]), (0, [(0, 1)]), (0, [(5, 1)]), (0, [(6, 1)]), (0, [(7, 1)]), (0, [(8, 1)])])] := hf
  simp only [List.mem_cons, List.not_mem_nil, or_false] at hf
  subst hf
  · simp [sv_FQk, sv_FQ, sv_evs, sv_ev, sv_evT, sv_nth, sv_adq, sv_gs, q_Ks_39, q_Q_39]
    refine ⟨⟨⟨bpk, Kpk⟩, ⟨bpf, Kpf⟩, ⟨bpe, Kpe⟩, ⟨bpp, Kpp⟩, ⟨boz, Koz⟩, ⟨bpo, Kpo⟩⟩, ?_⟩
    rw [sv_Qpt_iff]
    simp only [sv_put_eq, epk, epf, epp, eoz, epo]
    intro o i o1 o2 i1 i2 i3 hk
    have n1 : ¬ 120 * o + i = xi := by
      intro e
      have eo : o = xo := by omega
      rw [eo] at i2
      omega
    try rw [if_neg n1] at hk
    have q := h0 o i o1 o2 i1 i2 i3 hk
    have q0 := q.1
    have n2 : ¬ 120 * o + (i - 1) = xi := by
      intro e
      have eo : o = xo := by omega
      rw [eo] at i2
      omega
    try rw [if_neg n1]
    try rw [if_neg n2]
    exact q
-- pt_spp
def q_m118 : Nat × SvM := (117, ([(0, none), (-1180591620717411303424, none), (-1180591620717411303424, none), (0, none), (0, none), (0, none), (0, none), (0, none), (-1180591620717411303424, none), (-1180591620717411303424, none), (-1180591620717411303424, none), (-1180591620717411303424, none)], [(55, [], [(0, [(3, 1)]), (0, [(4, 1)]), (0, [(5, 1)]), (0, [(0, 1)]), (0, [(6, 1)]), (0, [(7, 1)]), (0, [(8, 1)])]), (4, [112, 1], [(0, [(7, 1)]), (0, [(9, 1)]), (0, [(10, 1)])]), (2, [], [(0, [(7, 1)]), (0, [(11, 1)])]), (0, [], [(0, [(9, 1)])]), (0, [], [(-1, [(9, -1), (11, 1)])]), (0, [], [(0, [(10, 1)])]), (0, [], [(119, [(10, -1)])]), (0, [], [(0, [(1, -1), (9, 120), (10, 1)])]), (0, [], [(0, [(1, 1), (9, -120), (10, -1)])])], [(55, [], [(0, [(3, 1)]), (0, [(4, 1)]), (0, [(5, 1)]), (0, [(0, 1)]), (0, [(6, 1)]), (0, [(7, 1)]), (0, [(8, 1)])])]))
theorem q_m118_ok : ∀ (g : Int → Int → Int) (ln : Int → Int) (kf : Int → Nat) (ρ : List Int) (a i x : Int), sv_BOk ρ q_m118.2.1 → (∀ f ∈ q_m118.2.2.1, sv_FQk q_Ks q_Q g ln kf ρ f) → sv_nth ρ 0 = some a → sv_nth ρ 1 = some i → sv_nth ρ 2 = some x → 0 ≤ a → 0 ≤ i → i < ln a → kf a = q_m118.1 → ∀ f ∈ q_m118.2.2.2, sv_FQk q_Ks q_Q (sv_put g a i x) ln kf ρ f := by
  intro g ln kf ρ a i x hb hf n0 n1 n2 p0 p1 p2 p3
  obtain ⟨hl, hb⟩ := hb
  obtain ⟨xpp, r0, rfl, l0⟩ := sv_lens hl
  obtain ⟨xi, r1, rfl, l1⟩ := sv_lens l0
  obtain ⟨xx, r2, rfl, l2⟩ := sv_lens l1
  obtain ⟨xpk, r3, rfl, l3⟩ := sv_lens l2
  obtain ⟨xpf, r4, rfl, l4⟩ := sv_lens l3
  obtain ⟨xpe, r5, rfl, l5⟩ := sv_lens l4
  obtain ⟨xoz, r6, rfl, l6⟩ := sv_lens l5
  obtain ⟨xpo, r7, rfl, l7⟩ := sv_lens l6
  obtain ⟨xn, r8, rfl, l8⟩ := sv_lens l7
  obtain ⟨xo, r9, rfl, l9⟩ := sv_lens l8
  obtain ⟨xy, r10, rfl, l10⟩ := sv_lens l9
  obtain ⟨xN, r11, rfl, l11⟩ := sv_lens l10
  obtain rfl := sv_len0 l11
  clear l0 l1 l2 l3 l4 l5 l6 l7 l8 l9 l10 l11 hl
  have bpp : 0 ≤ xpp := (hb 0 _ _ rfl rfl).1
  have bpk : 0 ≤ xpk := (hb 3 _ _ rfl rfl).1
  have bpf : 0 ≤ xpf := (hb 4 _ _ rfl rfl).1
  have bpe : 0 ≤ xpe := (hb 5 _ _ rfl rfl).1
  have boz : 0 ≤ xoz := (hb 6 _ _ rfl rfl).1
  have bpo : 0 ≤ xpo := (hb 7 _ _ rfl rfl).1
  clear hb
  obtain rfl : xpp = a := by simpa [sv_nth] using n0
  obtain rfl : xi = i := by simpa [sv_nth] using n1
  obtain rfl : xx = x := by simpa [sv_nth] using n2
  clear n0 n1 n2
  have p3 : kf xpp = 117 := p3
  have h0 := hf _ (List.mem_of_getElem? (i := 0) rfl)
  simp [sv_FQk, sv_FQ, sv_evs, sv_ev, sv_evT, sv_nth, sv_adq, sv_gs, q_Ks_39, q_Q_39] at h0
  have h1 := hf _ (List.mem_of_getElem? (i := 1) rfl)
  simp [sv_FQk, sv_FQ, sv_evs, sv_ev, sv_evT, sv_nth, sv_adq, sv_gs] at h1
  have h2 := hf _ (List.mem_of_getElem? (i := 2) rfl)
  simp [sv_FQk, sv_FQ, sv_evs, sv_ev, sv_evT, sv_nth, sv_adq, sv_gs] at h2
  have h3 := hf _ (List.mem_of_getElem? (i := 3) rfl)
  simp [sv_FQk, sv_FQ, sv_evs, sv_ev, sv_evT, sv_nth, sv_adq, sv_gs] at h3
  have h4 := hf _ (List.mem_of_getElem? (i := 4) rfl)
  simp [sv_FQk, sv_FQ, sv_evs, sv_ev, sv_evT, sv_nth, sv_adq, sv_gs] at h4
  have h5 := hf _ (List.mem_of_getElem? (i := 5) rfl)
  simp [sv_FQk, sv_FQ, sv_evs, sv_ev, sv_evT, sv_nth, sv_adq, sv_gs] at h5
  have h6 := hf _ (List.mem_of_getElem? (i := 6) rfl)
  simp [sv_FQk, sv_FQ, sv_evs, sv_ev, sv_evT, sv_nth, sv_adq, sv_gs] at h6
  have h7 := hf _ (List.mem_of_getElem? (i := 7) rfl)
  simp [sv_FQk, sv_FQ, sv_evs, sv_ev, sv_evT, sv_nth, sv_adq, sv_gs] at h7
  have h8 := hf _ (List.mem_of_getElem? (i := 8) rfl)
  simp [sv_FQk, sv_FQ, sv_evs, sv_ev, sv_evT, sv_nth, sv_adq, sv_gs] at h8
  clear hf
  obtain ⟨⟨⟨-, Kpk⟩, ⟨-, Kpf⟩, ⟨-, Kpe⟩, ⟨-, Kpp⟩, ⟨-, Koz⟩, ⟨-, Kpo⟩⟩, h0⟩ := h0
  rw [sv_Qpt_iff] at h0
  replace h1 := h1 bpo (by omega) (by have := h2 bpo; omega)
  have epk : sv_put g xpp xi xx xpk = g xpk := sv_put_ne (sv_kf_ne Kpk p3 (by decide))
  have epf : sv_put g xpp xi xx xpf = g xpf := sv_put_ne (sv_kf_ne Kpf p3 (by decide))
  have epe : sv_put g xpp xi xx xpe = g xpe := sv_put_ne (sv_kf_ne Kpe p3 (by decide))
  have eoz : sv_put g xpp xi xx xoz = g xoz := sv_put_ne (sv_kf_ne Koz p3 (by decide))
  have epo : sv_put g xpp xi xx xpo = g xpo := sv_put_ne (sv_kf_ne Kpo p3 (by decide))
  intro f hf
  have hf : f ∈ [(55, [], [(0, [(3, 1)]), (0, [(4, 1)]), (0, [(5, 1)]), (0, [(0, 1)]), (0, [(6, 1)]), (0, [(7, 1)]), (0, [(8, 1)])])] := hf
  simp only [List.mem_cons, List.not_mem_nil, or_false] at hf
  subst hf
  · simp [sv_FQk, sv_FQ, sv_evs, sv_ev, sv_evT, sv_nth, sv_adq, sv_gs, q_Ks_39, q_Q_39]
    refine ⟨⟨⟨bpk, Kpk⟩, ⟨bpf, Kpf⟩, ⟨bpe, Kpe⟩, ⟨bpp, Kpp⟩, ⟨boz, Koz⟩, ⟨bpo, Kpo⟩⟩, ?_⟩
    rw [sv_Qpt_iff]
    simp only [sv_put_eq, epk, epf, epe, eoz, epo]
    intro o i o1 o2 i1 i2 i3 hk
    have n1 : ¬ 120 * o + i = xi := by
      intro e
      have eo : o = xo := by omega
      rw [eo] at i2
      omega
    try rw [if_neg n1] at hk
    have q := h0 o i o1 o2 i1 i2 i3 hk
    have q0 := q.1
    have n2 : ¬ 120 * o + (i - 1) = xi := by
      intro e
      have eo : o = xo := by omega
      rw [eo] at i2
      omega
    try rw [if_neg n1]
    try rw [if_neg n2]
    exact q
-- pt_z
def q_m119 : Nat × SvM := (111, ([(0, none), (-1180591620717411303424, none), (-1180591620717411303424, none), (0, none), (0, none), (0, none), (0, none), (0, none), (-1180591620717411303424, none)], [(55, [], [(0, [(3, 1)]), (0, [(4, 1)]), (0, [(5, 1)]), (0, [(6, 1)]), (0, [(0, 1)]), (0, [(7, 1)]), (0, [(8, 1)])]), (0, [], [(0, [(1, 1), (8, -1)])])], [(55, [], [(0, [(3, 1)]), (0, [(4, 1)]), (0, [(5, 1)]), (0, [(6, 1)]), (0, [(0, 1)]), (0, [(7, 1)]), (0, [(8, 1)])])]))
theorem q_m119_ok : ∀ (g : Int → Int → Int) (ln : Int → Int) (kf : Int → Nat) (ρ : List Int) (a i x : Int), sv_BOk ρ q_m119.2.1 → (∀ f ∈ q_m119.2.2.1, sv_FQk q_Ks q_Q g ln kf ρ f) → sv_nth ρ 0 = some a → sv_nth ρ 1 = some i → sv_nth ρ 2 = some x → 0 ≤ a → 0 ≤ i → i < ln a → kf a = q_m119.1 → ∀ f ∈ q_m119.2.2.2, sv_FQk q_Ks q_Q (sv_put g a i x) ln kf ρ f := by
  intro g ln kf ρ a i x hb hf n0 n1 n2 p0 p1 p2 p3
  obtain ⟨hl, hb⟩ := hb
  obtain ⟨xoz, r0, rfl, l0⟩ := sv_lens hl
  obtain ⟨xi, r1, rfl, l1⟩ := sv_lens l0
  obtain ⟨xx, r2, rfl, l2⟩ := sv_lens l1
  obtain ⟨xpk, r3, rfl, l3⟩ := sv_lens l2
  obtain ⟨xpf, r4, rfl, l4⟩ := sv_lens l3
  obtain ⟨xpe, r5, rfl, l5⟩ := sv_lens l4
  obtain ⟨xpp, r6, rfl, l6⟩ := sv_lens l5
  obtain ⟨xpo, r7, rfl, l7⟩ := sv_lens l6
  obtain ⟨xn, r8, rfl, l8⟩ := sv_lens l7
  obtain rfl := sv_len0 l8
  clear l0 l1 l2 l3 l4 l5 l6 l7 l8 hl
  have boz : 0 ≤ xoz := (hb 0 _ _ rfl rfl).1
  have bpk : 0 ≤ xpk := (hb 3 _ _ rfl rfl).1
  have bpf : 0 ≤ xpf := (hb 4 _ _ rfl rfl).1
  have bpe : 0 ≤ xpe := (hb 5 _ _ rfl rfl).1
  have bpp : 0 ≤ xpp := (hb 6 _ _ rfl rfl).1
  have bpo : 0 ≤ xpo := (hb 7 _ _ rfl rfl).1
  clear hb
  obtain rfl : xoz = a := by simpa [sv_nth] using n0
  obtain rfl : xi = i := by simpa [sv_nth] using n1
  obtain rfl : xx = x := by simpa [sv_nth] using n2
  clear n0 n1 n2
  have p3 : kf xoz = 111 := p3
  have h0 := hf _ (List.mem_of_getElem? (i := 0) rfl)
  simp [sv_FQk, sv_FQ, sv_evs, sv_ev, sv_evT, sv_nth, sv_adq, sv_gs, q_Ks_39, q_Q_39] at h0
  have h1 := hf _ (List.mem_of_getElem? (i := 1) rfl)
  simp [sv_FQk, sv_FQ, sv_evs, sv_ev, sv_evT, sv_nth, sv_adq, sv_gs] at h1
  clear hf
  obtain ⟨⟨⟨-, Kpk⟩, ⟨-, Kpf⟩, ⟨-, Kpe⟩, ⟨-, Kpp⟩, ⟨-, Koz⟩, ⟨-, Kpo⟩⟩, h0⟩ := h0
  rw [sv_Qpt_iff] at h0
  have epk : sv_put g xoz xi xx xpk = g xpk := sv_put_ne (sv_kf_ne Kpk p3 (by decide))
  have epf : sv_put g xoz xi xx xpf = g xpf := sv_put_ne (sv_kf_ne Kpf p3 (by decide))
  have epe : sv_put g xoz xi xx xpe = g xpe := sv_put_ne (sv_kf_ne Kpe p3 (by decide))
  have epp : sv_put g xoz xi xx xpp = g xpp := sv_put_ne (sv_kf_ne Kpp p3 (by decide))
  have epo : sv_put g xoz xi xx xpo = g xpo := sv_put_ne (sv_kf_ne Kpo p3 (by decide))
  intro f hf
  have hf : f ∈ [(55, [], [(0, [(3, 1)]), (0, [(4, 1)]), (0, [(5, 1)]), (0, [(6, 1)]), (0, [(0, 1)]), (0, [(7, 1)]), (0, [(8, 1)])])] := hf
  simp only [List.mem_cons, List.not_mem_nil, or_false] at hf
  subst hf
  · simp [sv_FQk, sv_FQ, sv_evs, sv_ev, sv_evT, sv_nth, sv_adq, sv_gs, q_Ks_39, q_Q_39]
    refine ⟨⟨⟨bpk, Kpk⟩, ⟨bpf, Kpf⟩, ⟨bpe, Kpe⟩, ⟨bpp, Kpp⟩, ⟨boz, Koz⟩, ⟨bpo, Kpo⟩⟩, ?_⟩
    rw [sv_Qpt_iff]
    simp only [sv_put_eq, epk, epf, epe, epp, epo]
    intro o i o1 o2 i1 i2 i3 hk
    rw [if_neg (by omega)]
    exact h0 o i o1 o2 i1 i2 i3 hk
-- pt_n
def q_m120 : Nat × SvM := (112, ([(0, none), (-1180591620717411303424, none), (-1180591620717411303424, none), (0, none), (0, none), (0, none), (0, none), (0, none), (-1180591620717411303424, none)], [(55, [], [(0, [(3, 1)]), (0, [(4, 1)]), (0, [(5, 1)]), (0, [(6, 1)]), (0, [(7, 1)]), (0, [(0, 1)]), (0, [(8, 1)])]), (0, [], [(0, [(1, 1), (8, -1)])])], [(55, [], [(0, [(3, 1)]), (0, [(4, 1)]), (0, [(5, 1)]), (0, [(6, 1)]), (0, [(7, 1)]), (0, [(0, 1)]), (0, [(8, 1)])])]))
theorem q_m120_ok : ∀ (g : Int → Int → Int) (ln : Int → Int) (kf : Int → Nat) (ρ : List Int) (a i x : Int), sv_BOk ρ q_m120.2.1 → (∀ f ∈ q_m120.2.2.1, sv_FQk q_Ks q_Q g ln kf ρ f) → sv_nth ρ 0 = some a → sv_nth ρ 1 = some i → sv_nth ρ 2 = some x → 0 ≤ a → 0 ≤ i → i < ln a → kf a = q_m120.1 → ∀ f ∈ q_m120.2.2.2, sv_FQk q_Ks q_Q (sv_put g a i x) ln kf ρ f := by
  intro g ln kf ρ a i x hb hf n0 n1 n2 p0 p1 p2 p3
  obtain ⟨hl, hb⟩ := hb
  obtain ⟨xpo, r0, rfl, l0⟩ := sv_lens hl
  obtain ⟨xi, r1, rfl, l1⟩ := sv_lens l0
  obtain ⟨xx, r2, rfl, l2⟩ := sv_lens l1
  obtain ⟨xpk, r3, rfl, l3⟩ := sv_lens l2
  obtain ⟨xpf, r4, rfl, l4⟩ := sv_lens l3
  obtain ⟨xpe, r5, rfl, l5⟩ := sv_lens l4
  obtain ⟨xpp, r6, rfl, l6⟩ := sv_lens l5
  obtain ⟨xoz, r7, rfl, l7⟩ := sv_lens l6
  obtain ⟨xn, r8, rfl, l8⟩ := sv_lens l7
  obtain rfl := sv_len0 l8
  clear l0 l1 l2 l3 l4 l5 l6 l7 l8 hl
  have bpo : 0 ≤ xpo := (hb 0 _ _ rfl rfl).1
  have bpk : 0 ≤ xpk := (hb 3 _ _ rfl rfl).1
  have bpf : 0 ≤ xpf := (hb 4 _ _ rfl rfl).1
  have bpe : 0 ≤ xpe := (hb 5 _ _ rfl rfl).1
  have bpp : 0 ≤ xpp := (hb 6 _ _ rfl rfl).1
  have boz : 0 ≤ xoz := (hb 7 _ _ rfl rfl).1
  clear hb
  obtain rfl : xpo = a := by simpa [sv_nth] using n0
  obtain rfl : xi = i := by simpa [sv_nth] using n1
  obtain rfl : xx = x := by simpa [sv_nth] using n2
  clear n0 n1 n2
  have p3 : kf xpo = 112 := p3
  have h0 := hf _ (List.mem_of_getElem? (i := 0) rfl)
  simp [sv_FQk, sv_FQ, sv_evs, sv_ev, sv_evT, sv_nth, sv_adq, sv_gs, q_Ks_39, q_Q_39] at h0
  have h1 := hf _ (List.mem_of_getElem? (i := 1) rfl)
  simp [sv_FQk, sv_FQ, sv_evs, sv_ev, sv_evT, sv_nth, sv_adq, sv_gs] at h1
  clear hf
  obtain ⟨⟨⟨-, Kpk⟩, ⟨-, Kpf⟩, ⟨-, Kpe⟩, ⟨-, Kpp⟩, ⟨-, Koz⟩, ⟨-, Kpo⟩⟩, h0⟩ := h0
  rw [sv_Qpt_iff] at h0
  have epk : sv_put g xpo xi xx xpk = g xpk := sv_put_ne (sv_kf_ne Kpk p3 (by decide))
  have epf : sv_put g xpo xi xx xpf = g xpf := sv_put_ne (sv_kf_ne Kpf p3 (by decide))
  have epe : sv_put g xpo xi xx xpe = g xpe := sv_put_ne (sv_kf_ne Kpe p3 (by decide))
  have epp : sv_put g xpo xi xx xpp = g xpp := sv_put_ne (sv_kf_ne Kpp p3 (by decide))
  have eoz : sv_put g xpo xi xx xoz = g xoz := sv_put_ne (sv_kf_ne Koz p3 (by decide))
  intro f hf
  have hf : f ∈ [(55, [], [(0, [(3, 1)]), (0, [(4, 1)]), (0, [(5, 1)]), (0, [(6, 1)]), (0, [(7, 1)]), (0, [(0, 1)]), (0, [(8, 1)])])] := hf
  simp only [List.mem_cons, List.not_mem_nil, or_false] at hf
  subst hf
  · simp [sv_FQk, sv_FQ, sv_evs, sv_ev, sv_evT, sv_nth, sv_adq, sv_gs, q_Ks_39, q_Q_39]
    refine ⟨⟨⟨bpk, Kpk⟩, ⟨bpf, Kpf⟩, ⟨bpe, Kpe⟩, ⟨bpp, Kpp⟩, ⟨boz, Koz⟩, ⟨bpo, Kpo⟩⟩, ?_⟩
    rw [sv_Qpt_iff]
    simp only [sv_put_eq, epk, epf, epe, epp, eoz]
    intro o i o1 o2 i1 i2 i3 hk
    rw [if_neg (by omega)] at i2
    exact h0 o i o1 o2 i1 i2 i3 hk
-- pt_p
def q_m121 : Nat × SvM := (112, ([(0, none), (-1180591620717411303424, none), (-1180591620717411303424, none), (0, none), (0, none), (0, none), (0, none), (0, none), (-1180591620717411303424, none), (-1180591620717411303424, none), (-1180591620717411303424, none), (-1180591620717411303424, none), (-1180591620717411303424, none), (-1180591620717411303424, none), (-1180591620717411303424, none), (-1180591620717411303424, none), (-1180591620717411303424, none), (-1180591620717411303424, none), (-1180591620717411303424, none), (-1180591620717411303424, none), (-1180591620717411303424, none)], [(55, [], [(0, [(3, 1)]), (0, [(4, 1)]), (0, [(5, 1)]), (0, [(6, 1)]), (0, [(7, 1)]), (0, [(0, 1)]), (0, [(8, 1)])]), (4, [112, 1], [(0, [(0, 1)]), (0, [(1, 1)]), (0, [(9, 1)])]), (2, [], [(0, [(0, 1)]), (0, [(10, 1)])]), (0, [], [(0, [(1, 1)])]), (0, [], [(-1, [(1, -1), (10, 1)])]), (0, [], [(0, [(9, 1)])]), (0, [], [(119, [(9, -1)])]), (0, [], [(1, [(2, -1), (9, 1)])]), (0, [], [(-1, [(2, 1), (9, -1)])]), (4, [113, 1], [(0, [(3, 1)]), (0, [(1, 120), (9, 1)]), (0, [(11, 1)])]), (2, [], [(0, [(3, 1)]), (0, [(12, 1)])]), (0, [], [(-1, [(1, -120), (9, -1), (12, 1)])]), (4, [114, 1], [(0, [(4, 1)]), (0, [(1, 120), (9, 1)]), (0, [(13, 1)])]), (2, [], [(0, [(4, 1)]), (0, [(14, 1)])]), (0, [], [(-1, [(1, -120), (9, -1), (14, 1)])]), (4, [115, 1], [(0, [(5, 1)]), (0, [(1, 120), (9, 1)]), (0, [(15, 1)])]), (2, [], [(0, [(5, 1)]), (0, [(16, 1)])]), (0, [], [(-1, [(1, -120), (9, -1), (16, 1)])]), (4, [117, 1], [(0, [(6, 1)]), (0, [(1, 120), (9, 1)]), (0, [(17, 1)])]), (2, [], [(0, [(6, 1)]), (0, [(18, 1)])]), (0, [], [(-1, [(1, -120), (9, -1), (18, 1)])]), (4, [111, 1], [(0, [(7, 1)]), (0, [(1, 1)]), (0, [(19, 1)])]), (2, [], [(0, [(7, 1)]), (0, [(20, 1)])]), (0, [], [(-1, [(1, -1), (20, 1)])]), (56, [], [(0, [(4, 1)]), (0, [(5, 1)]), (0, [(1, 120), (9, 1)]), (0, [(19, 1)]), (120, [(1, 120)]), (0, [(17, 1)]), (0, [(11, 1)]), (0, [(13, 1)]), (0, [(15, 1)])])], [(55, [], [(0, [(3, 1)]), (0, [(4, 1)]), (0, [(5, 1)]), (0, [(6, 1)]), (0, [(7, 1)]), (0, [(0, 1)]), (0, [(8, 1)])])]))
theorem q_m121_ok : ∀ (g : Int → Int → Int) (ln : Int → Int) (kf : Int → Nat) (ρ : List Int) (a i x : Int), sv_BOk ρ q_m121.2.1 → (∀ f ∈ q_m121.2.2.1, sv_FQk q_Ks q_Q g ln kf ρ f) → sv_nth ρ 0 = some a → sv_nth ρ 1 = some i → sv_nth ρ 2 = some x → 0 ≤ a → 0 ≤ i → i < ln a → kf a = q_m121.1 → ∀ f ∈ q_m121.2.2.2, sv_FQk q_Ks q_Q (sv_put g a i x) ln kf ρ f := by
  intro g ln kf ρ a i x hb hf n0 n1 n2 p0 p1 p2 p3
  obtain ⟨hl, hb⟩ := hb
  obtain ⟨xpo, r0, rfl, l0⟩ := sv_lens hl
  obtain ⟨xi, r1, rfl, l1⟩ := sv_lens l0
  obtain ⟨xx, r2, rfl, l2⟩ := sv_lens l1
  obtain ⟨xpk, r3, rfl, l3⟩ := sv_lens l2
  obtain ⟨xpf, r4, rfl, l4⟩ := sv_lens l3
  obtain ⟨xpe, r5, rfl, l5⟩ := sv_lens l4
  obtain ⟨xpp, r6, rfl, l6⟩ := sv_lens l5
  obtain ⟨xoz, r7, rfl, l7⟩ := sv_lens l6
  obtain ⟨xn, r8, rfl, l8⟩ := sv_lens l7
  obtain ⟨xy, r9, rfl, l9⟩ := sv_lens l8
  obtain ⟨xN, r10, rfl, l10⟩ := sv_lens l9
  obtain ⟨xk, r11, rfl, l11⟩ := sv_lens l10
  obtain ⟨xN1, r12, rfl, l12⟩ := sv_lens l11
  obtain ⟨xf, r13, rfl, l13⟩ := sv_lens l12
  obtain ⟨xN2, r14, rfl, l14⟩ := sv_lens l13
  obtain ⟨xt, r15, rfl, l15⟩ := sv_lens l14
  obtain ⟨xN3, r16, rfl, l16⟩ := sv_lens l15
  obtain ⟨xp, r17, rfl, l17⟩ := sv_lens l16
  obtain ⟨xN4, r18, rfl, l18⟩ := sv_lens l17
  obtain ⟨xz, r19, rfl, l19⟩ := sv_lens l18
  obtain ⟨xN5, r20, rfl, l20⟩ := sv_lens l19
  obtain rfl := sv_len0 l20
  clear l0 l1 l2 l3 l4 l5 l6 l7 l8 l9 l10 l11 l12 l13 l14 l15 l16 l17 l18 l19 l20 hl
  have bpo : 0 ≤ xpo := (hb 0 _ _ rfl rfl).1
  have bpk : 0 ≤ xpk := (hb 3 _ _ rfl rfl).1
  have bpf : 0 ≤ xpf := (hb 4 _ _ rfl rfl).1
  have bpe : 0 ≤ xpe := (hb 5 _ _ rfl rfl).1
  have bpp : 0 ≤ xpp := (hb 6 _ _ rfl rfl).1
  have boz : 0 ≤ xoz := (hb 7 _ _ rfl rfl).1
  clear hb
  obtain rfl : xpo = a := by simpa [sv_nth] using n0
  obtain rfl : xi = i := by simpa [sv_nth] using n1
  obtain rfl : xx = x := by simpa [sv_nth] using n2
  clear n0 n1 n2
  have p3 : kf xpo = 112 := p3
  have h0 := hf _ (List.mem_of_getElem? (i := 0) rfl)
  simp [sv_FQk, sv_FQ, sv_evs, sv_ev, sv_evT, sv_nth, sv_adq, sv_gs, q_Ks_39, q_Q_39] at h0
  have h1 := hf _ (List.mem_of_getElem? (i := 1) rfl)
  simp [sv_FQk, sv_FQ, sv_evs, sv_ev, sv_evT, sv_nth, sv_adq, sv_gs] at h1
  have h2 := hf _ (List.mem_of_getElem? (i := 2) rfl)
  simp [sv_FQk, sv_FQ, sv_evs, sv_ev, sv_evT, sv_nth, sv_adq, sv_gs] at h2
  have h3 := hf _ (List.mem_of_getElem? (i := 3) rfl)
  simp [sv_FQk, sv_FQ, sv_evs, sv_ev, sv_evT, sv_nth, sv_adq, sv_gs] at h3
  have h4 := hf _ (List.mem_of_getElem? (i := 4) rfl)
  simp [sv_FQk, sv_FQ, sv_evs, sv_ev, sv_evT, sv_nth, sv_adq, sv_gs] at h4
  have h5 := hf _ (List.mem_of_getElem? (i := 5) rfl)
  simp [sv_FQk, sv_FQ, sv_evs, sv_ev, sv_evT, sv_nth, sv_adq, sv_gs] at h5
  have h6 := hf _ (List.mem_of_getElem? (i := 6) rfl)
  simp [sv_FQk, sv_FQ, sv_evs, sv_ev, sv_evT, sv_nth, sv_adq, sv_gs] at h6
  have h7 := hf _ (List.mem_of_getElem? (i := 7) rfl)
  simp [sv_FQk, sv_FQ, sv_evs, sv_ev, sv_evT, sv_nth, sv_adq, sv_gs] at h7
  have h8 := hf _ (List.mem_of_getElem? (i := 8) rfl)
  simp [sv_FQk, sv_FQ, sv_evs, sv_ev, sv_evT, sv_nth, sv_adq, sv_gs] at h8
  have h9 := hf _ (List.mem_of_getElem? (i := 9) rfl)
  simp [sv_FQk, sv_FQ, sv_evs, sv_ev, sv_evT, sv_nth, sv_adq, sv_gs] at h9
  have h10 := hf _ (List.mem_of_getElem? (i := 10) rfl)
  simp [sv_FQk, sv_FQ, sv_evs, sv_ev, sv_evT, sv_nth, sv_adq, sv_gs] at h10
  have h11 := hf _ (List.mem_of_getElem? (i := 11) rfl)
  simp [sv_FQk, sv_FQ, sv_evs, sv_ev, sv_evT, sv_nth, sv_adq, sv_gs] at h11
  have h12 := hf _ (List.mem_of_getElem? (i := 12) rfl)
  simp [sv_FQk, sv_FQ, sv_evs, sv_ev, sv_evT, sv_nth, sv_adq, sv_gs] at h12
  have h13 := hf _ (List.mem_of_getElem? (i := 13) rfl)
  simp [sv_FQk, sv_FQ, sv_evs, sv_ev, sv_evT, sv_nth, sv_adq, sv_gs] at h13
  have h14 := hf _ (List.mem_of_getElem? (i := 14) rfl)
  simp [sv_FQk, sv_FQ, sv_evs, sv_ev, sv_evT, sv_nth, sv_adq, sv_gs] at h14
  have h15 := hf _ (List.mem_of_getElem? (i := 15) rfl)
  simp [sv_FQk, sv_FQ, sv_evs, sv_ev, sv_evT, sv_nth, sv_adq, sv_gs] at h15
  have h16 := hf _ (List.mem_of_getElem? (i := 16) rfl)
  simp [sv_FQk, sv_FQ, sv_evs, sv_ev, sv_evT, sv_nth, sv_adq, sv_gs] at h16
  have h17 := hf _ (List.mem_of_getElem? (i := 17) rfl)
  simp [sv_FQk, sv_FQ, sv_evs, sv_ev, sv_evT, sv_nth, sv_adq, sv_gs] at h17
  have h18 := hf _ (List.mem_of_getElem? (i := 18) rfl)
  simp [sv_FQk, sv_FQ, sv_evs, sv_ev, sv_evT, sv_nth, sv_adq, sv_gs] at h18
  have h19 := hf _ (List.mem_of_getElem? (i := 19) rfl)
  simp [sv_FQk, sv_FQ, sv_evs, sv_ev, sv_evT, sv_nth, sv_adq, sv_gs] at h19
  have h20 := hf _ (List.mem_of_getElem? (i := 20) rfl)
  simp [sv_FQk, sv_FQ, sv_evs, sv_ev, sv_evT, sv_nth, sv_adq, sv_gs] at h20
  have h21 := hf _ (List.mem_of_getElem? (i := 21) rfl)
  simp [sv_FQk, sv_FQ, sv_evs, sv_ev, sv_evT, sv_nth, sv_adq, sv_gs] at h21
  have h22 := hf _ (List.mem_of_getElem? (i := 22) rfl)
  simp [sv_FQk, sv_FQ, sv_evs, sv_ev, sv_evT, sv_nth, sv_adq, sv_gs] at h22
  have h23 := hf _ (List.mem_of_getElem? (i := 23) rfl)
  simp [sv_FQk, sv_FQ, sv_evs, sv_ev, sv_evT, sv_nth, sv_adq, sv_gs] at h23
  have h24 := hf _ (List.mem_of_getElem? (i := 24) rfl)
  simp [sv_FQk, sv_FQ, sv_evs, sv_ev, sv_evT, sv_nth, sv_adq, sv_gs, q_Ks_40, q_Q_40] at h24
  clear hf
  obtain ⟨⟨⟨-, Kpk⟩, ⟨-, Kpf⟩, ⟨-, Kpe⟩, ⟨-, Kpp⟩, ⟨-, Koz⟩, ⟨-, Kpo⟩⟩, h0⟩ := h0
  rw [sv_Qpt_iff] at h0
  replace h1 := h1 bpo (by omega) (by have := h2 bpo; omega)
  replace h9 := h9 bpk (by omega) (by have := h10 bpk; omega)
  replace h12 := h12 bpf (by omega) (by have := h13 bpf; omega)
  replace h15 := h15 bpe (by omega) (by have := h16 bpe; omega)
  replace h18 := h18 bpp (by omega) (by have := h19 bpp; omega)
  replace h21 := h21 boz (by omega) (by have := h22 boz; omega)
  obtain ⟨⟨⟨-, Kpf⟩, ⟨-, Kpe⟩⟩, h24⟩ := h24
  rw [sv_Qpn_iff] at h24
  have epk : sv_put g xpo xi xx xpk = g xpk := sv_put_ne (sv_kf_ne Kpk p3 (by decide))
  have epf : sv_put g xpo xi xx xpf = g xpf := sv_put_ne (sv_kf_ne Kpf p3 (by decide))
  have epe : sv_put g xpo xi xx xpe = g xpe := sv_put_ne (sv_kf_ne Kpe p3 (by decide))
  have epp : sv_put g xpo xi xx xpp = g xpp := sv_put_ne (sv_kf_ne Kpp p3 (by decide))
  have eoz : sv_put g xpo xi xx xoz = g xoz := sv_put_ne (sv_kf_ne Koz p3 (by decide))
  intro f hf
  have hf : f ∈ [(55, [], [(0, [(3, 1)]), (0, [(4, 1)]), (0, [(5, 1)]), (0, [(6, 1)]), (0, [(7, 1)]), (0, [(0, 1)]), (0, [(8, 1)])])] := hf
  simp only [List.mem_cons, List.not_mem_nil, or_false] at hf
  subst hf
  · simp [sv_FQk, sv_FQ, sv_evs, sv_ev, sv_evT, sv_nth, sv_adq, sv_gs, q_Ks_39, q_Q_39]
    refine ⟨⟨⟨bpk, Kpk⟩, ⟨bpf, Kpf⟩, ⟨bpe, Kpe⟩, ⟨bpp, Kpp⟩, ⟨boz, Koz⟩, ⟨bpo, Kpo⟩⟩, ?_⟩
    rw [sv_Qpt_iff]
    simp only [sv_put_eq, epk, epf, epe, epp, eoz]
    intro o j o1 o2 j1 j2 j3 hk
    by_cases e : o = xi
    · rw [if_pos e] at j2
      by_cases e2 : j = xy
      · have ea : 120 * xi + xy = 120 * o + j := by omega
        have uk : g xpk (120 * o + j) = xk := sv_fat (by omega) h9
        have uf : g xpf (120 * o + j) = xf := sv_fat (by omega) h12
        have ue : g xpe (120 * o + j) = xt := sv_fat (by omega) h15
        have up : g xpp (120 * o + j) = xp := sv_fat (by omega) h18
        have uz : g xoz o = xz := sv_fat (by omega) h21
        have q := h24 (by omega) (by omega)
        rw [show 120 * o + (j - 1) = 120 * xi + xy - 1 by omega, uf, ue, up, uz]
        omega
      · exact h0 o j o1 o2 j1 (by rw [e]; omega) j3 hk
    · rw [if_neg e] at j2
      exact h0 o j o1 o2 j1 j2 j3 hk
-- hw_s
def q_m122 : Nat × SvM := (125, ([(0, none), (-1180591620717411303424, none), (-1180591620717411303424, none), (-1180591620717411303424, none), (-1180591620717411303424, none)], [(57, [], [(0, [(0, 1)]), (0, [(3, 1)]), (0, [(4, 1)])]), (0, [], [(0, [(1, -1), (3, 1)])]), (0, [], [(0, [(1, 1), (3, -1)])]), (0, [], [(0, [(3, 1)])]), (0, [], [(0, [(2, 1)])]), (0, [], [(255, [(2, -1)])])], [(57, [], [(0, [(0, 1)]), (1, [(3, 1)]), (0, [(2, 1), (4, 256)])])]))
theorem q_m122_ok : ∀ (g : Int → Int → Int) (ln : Int → Int) (kf : Int → Nat) (ρ : List Int) (a i x : Int), sv_BOk ρ q_m122.2.1 → (∀ f ∈ q_m122.2.2.1, sv_FQk q_Ks q_Q g ln kf ρ f) → sv_nth ρ 0 = some a → sv_nth ρ 1 = some i → sv_nth ρ 2 = some x → 0 ≤ a → 0 ≤ i → i < ln a → kf a = q_m122.1 → ∀ f ∈ q_m122.2.2.2, sv_FQk q_Ks q_Q (sv_put g a i x) ln kf ρ f := by
  intro g ln kf ρ a i x hb hf n0 n1 n2 p0 p1 p2 p3
  obtain ⟨hl, hb⟩ := hb
  obtain ⟨xa, r0, rfl, l0⟩ := sv_lens hl
  obtain ⟨xi, r1, rfl, l1⟩ := sv_lens l0
  obtain ⟨xx, r2, rfl, l2⟩ := sv_lens l1
  obtain ⟨xn, r3, rfl, l3⟩ := sv_lens l2
  obtain ⟨xc, r4, rfl, l4⟩ := sv_lens l3
  obtain rfl := sv_len0 l4
  clear l0 l1 l2 l3 l4 hl
  have ba : 0 ≤ xa := (hb 0 _ _ rfl rfl).1
  clear hb
  obtain rfl : xa = a := by simpa [sv_nth] using n0
  obtain rfl : xi = i := by simpa [sv_nth] using n1
  obtain rfl : xx = x := by simpa [sv_nth] using n2
  clear n0 n1 n2
  have p3 : kf xa = 125 := p3
  have h0 := hf _ (List.mem_of_getElem? (i := 0) rfl)
  simp [sv_FQk, sv_FQ, sv_evs, sv_ev, sv_evT, sv_nth, sv_adq, sv_gs, q_Ks_41, q_Q_41] at h0
  have h1 := hf _ (List.mem_of_getElem? (i := 1) rfl)
  simp [sv_FQk, sv_FQ, sv_evs, sv_ev, sv_evT, sv_nth, sv_adq, sv_gs] at h1
  have h2 := hf _ (List.mem_of_getElem? (i := 2) rfl)
  simp [sv_FQk, sv_FQ, sv_evs, sv_ev, sv_evT, sv_nth, sv_adq, sv_gs] at h2
  have h3 := hf _ (List.mem_of_getElem? (i := 3) rfl)
  simp [sv_FQk, sv_FQ, sv_evs, sv_ev, sv_evT, sv_nth, sv_adq, sv_gs] at h3
  have h4 := hf _ (List.mem_of_getElem? (i := 4) rfl)
  simp [sv_FQk, sv_FQ, sv_evs, sv_ev, sv_evT, sv_nth, sv_adq, sv_gs] at h4
  have h5 := hf _ (List.mem_of_getElem? (i := 5) rfl)
  simp [sv_FQk, sv_FQ, sv_evs, sv_ev, sv_evT, sv_nth, sv_adq, sv_gs] at h5
  clear hf
  obtain ⟨⟨-, Ka⟩, h0⟩ := h0
  rw [sv_Qhn_iff] at h0
  intro f hf
  have hf : f ∈ [(57, [], [(0, [(0, 1)]), (1, [(3, 1)]), (0, [(2, 1), (4, 256)])])] := hf
  simp only [List.mem_cons, List.not_mem_nil, or_false] at hf
  subst hf
  · simp [sv_FQk, sv_FQ, sv_evs, sv_ev, sv_evT, sv_nth, sv_adq, sv_gs, q_Ks_41, q_Q_41]
    refine ⟨⟨ba, Ka⟩, ?_⟩
    rw [sv_Qhn_iff]
    simp only [sv_put_eq]
    have e : (1 + xn).toNat = xn.toNat + 1 := by omega
    rw [e]
    refine ⟨?_, fun j j1 j2 => ?_⟩
    · simp only [sv_hn]
      rw [sv_hn_congr (g := g xa) (fun j j1 j2 => by rw [if_neg (by omega)]), h0.1, if_pos (by omega)]
      omega
    · by_cases e2 : j = xi
      · rw [if_pos e2]
        omega
      · rw [if_neg e2]
        exact h0.2 j j1 (by omega)
-- hf_s
def q_m123 : Nat × SvM := (126, ([(0, none), (-1180591620717411303424, none), (-1180591620717411303424, none), (-1180591620717411303424, none), (-1180591620717411303424, none)], [(58, [], [(0, [(0, 1)]), (0, [(3, 1)]), (0, [(4, 1)])]), (0, [], [(0, [(1, -1), (3, 1)])]), (0, [], [(0, [(1, 1), (3, -1)])]), (0, [], [(0, [(3, 1)])]), (0, [], [(0, [(2, 1)])]), (0, [], [(255, [(2, -1)])])], [(58, [], [(0, [(0, 1)]), (1, [(3, 1)]), (0, [(2, 1), (4, 256)])])]))
theorem q_m123_ok : ∀ (g : Int → Int → Int) (ln : Int → Int) (kf : Int → Nat) (ρ : List Int) (a i x : Int), sv_BOk ρ q_m123.2.1 → (∀ f ∈ q_m123.2.2.1, sv_FQk q_Ks q_Q g ln kf ρ f) → sv_nth ρ 0 = some a → sv_nth ρ 1 = some i → sv_nth ρ 2 = some x → 0 ≤ a → 0 ≤ i → i < ln a → kf a = q_m123.1 → ∀ f ∈ q_m123.2.2.2, sv_FQk q_Ks q_Q (sv_put g a i x) ln kf ρ f := by
  intro g ln kf ρ a i x hb hf n0 n1 n2 p0 p1 p2 p3
  obtain ⟨hl, hb⟩ := hb
  obtain ⟨xa, r0, rfl, l0⟩ := sv_lens hl
  obtain ⟨xi, r1, rfl, l1⟩ := sv_lens l0
  obtain ⟨xx, r2, rfl, l2⟩ := sv_lens l1
  obtain ⟨xn, r3, rfl, l3⟩ := sv_lens l2
  obtain ⟨xc, r4, rfl, l4⟩ := sv_lens l3
  obtain rfl := sv_len0 l4
  clear l0 l1 l2 l3 l4 hl
  have ba : 0 ≤ xa := (hb 0 _ _ rfl rfl).1
  clear hb
  obtain rfl : xa = a := by simpa [sv_nth] using n0
  obtain rfl : xi = i := by simpa [sv_nth] using n1
  obtain rfl : xx = x := by simpa [sv_nth] using n2
  clear n0 n1 n2
  have p3 : kf xa = 126 := p3
  have h0 := hf _ (List.mem_of_getElem? (i := 0) rfl)
  simp [sv_FQk, sv_FQ, sv_evs, sv_ev, sv_evT, sv_nth, sv_adq, sv_gs, q_Ks_42, q_Q_42] at h0
  have h1 := hf _ (List.mem_of_getElem? (i := 1) rfl)
  simp [sv_FQk, sv_FQ, sv_evs, sv_ev, sv_evT, sv_nth, sv_adq, sv_gs] at h1
  have h2 := hf _ (List.mem_of_getElem? (i := 2) rfl)
  simp [sv_FQk, sv_FQ, sv_evs, sv_ev, sv_evT, sv_nth, sv_adq, sv_gs] at h2
  have h3 := hf _ (List.mem_of_getElem? (i := 3) rfl)
  simp [sv_FQk, sv_FQ, sv_evs, sv_ev, sv_evT, sv_nth, sv_adq, sv_gs] at h3
  have h4 := hf _ (List.mem_of_getElem? (i := 4) rfl)
  simp [sv_FQk, sv_FQ, sv_evs, sv_ev, sv_evT, sv_nth, sv_adq, sv_gs] at h4
  have h5 := hf _ (List.mem_of_getElem? (i := 5) rfl)
  simp [sv_FQk, sv_FQ, sv_evs, sv_ev, sv_evT, sv_nth, sv_adq, sv_gs] at h5
  clear hf
  obtain ⟨⟨-, Ka⟩, h0⟩ := h0
  rw [sv_Qhn_iff] at h0
  intro f hf
  have hf : f ∈ [(58, [], [(0, [(0, 1)]), (1, [(3, 1)]), (0, [(2, 1), (4, 256)])])] := hf
  simp only [List.mem_cons, List.not_mem_nil, or_false] at hf
  subst hf
  · simp [sv_FQk, sv_FQ, sv_evs, sv_ev, sv_evT, sv_nth, sv_adq, sv_gs, q_Ks_42, q_Q_42]
    refine ⟨⟨ba, Ka⟩, ?_⟩
    rw [sv_Qhn_iff]
    simp only [sv_put_eq]
    have e : (1 + xn).toNat = xn.toNat + 1 := by omega
    rw [e]
    refine ⟨?_, fun j j1 j2 => ?_⟩
    · simp only [sv_hn]
      rw [sv_hn_congr (g := g xa) (fun j j1 j2 => by rw [if_neg (by omega)]), h0.1, if_pos (by omega)]
      omega
    · by_cases e2 : j = xi
      · rw [if_pos e2]
        omega
      · rw [if_neg e2]
        exact h0.2 j j1 (by omega)
