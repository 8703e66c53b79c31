-- ===== laws that bring numbers =====
-- pw_i
def q_x0 : SvE := ([(-1180591620717411303424, none)], [(0, [], [(0, [(0, 1)])]), (0, [], [(11, [(0, -1)])])], [(1, some (177147))], [(24, [], [(0, [(0, 1)]), (0, [(1, 1)])])])
theorem q_x0_ok : ∀ (g : Int → Int → Int) (ln : Int → Int) (kf : Int → Nat) (ρ : List Int), sv_BOk ρ q_x0.1 → (∀ f ∈ q_x0.2.1, sv_FQk q_Ks q_Q g ln kf ρ f) → ∃ τ, sv_BOk τ q_x0.2.2.1 ∧ ∀ f ∈ q_x0.2.2.2, sv_FQk q_Ks q_Q g ln kf (ρ ++ τ) f := by
  intro g ln kf ρ hb hf
  obtain ⟨hl, hb⟩ := hb
  obtain ⟨xw, r0, rfl, l0⟩ := sv_lens hl
  obtain rfl := sv_len0 l0
  clear l0 hl
  clear hb
  have h0 := hf _ (List.mem_of_getElem? (i := 0) rfl)
  simp [sv_FQk, sv_FQ, sv_evs, sv_ev, sv_evT, sv_nth, sv_adq, sv_gs] at h0
  have h1 := hf _ (List.mem_of_getElem? (i := 1) rfl)
  simp [sv_FQk, sv_FQ, sv_evs, sv_ev, sv_evT, sv_nth, sv_adq, sv_gs] at h1
  clear hf
  refine ⟨[sv_pow3 xw], sv_BOk_1 (by have := sv_pow3_pos xw; omega) (Int.le_trans (sv_pow3_mono (v := xw) (w := 11) (by omega) (by omega)) (by decide)), ?_⟩
  intro f hf
  have hf : f ∈ [(24, [], [(0, [(0, 1)]), (0, [(1, 1)])])] := hf
  simp only [List.mem_cons, List.not_mem_nil, or_false] at hf
  subst hf
  · simp [sv_FQk, sv_FQ, sv_evs, sv_ev, sv_evT, sv_nth, sv_adq, sv_gs, q_Ks_8, q_Q_8]
    rw [sv_Qpw_iff]
    all_goals rfl
-- w16_n
def q_x1 : SvE := ([(0, none), (-1180591620717411303424, none)], [(1, [63], [(0, [(0, 1)])]), (0, [], [(-1, [(1, -1)])])], [(1, some (1))], [(34, [], [(0, [(0, 1)]), (0, [(1, 1)]), (0, [(2, 1)])])])
theorem q_x1_ok : ∀ (g : Int → Int → Int) (ln : Int → Int) (kf : Int → Nat) (ρ : List Int), sv_BOk ρ q_x1.1 → (∀ f ∈ q_x1.2.1, sv_FQk q_Ks q_Q g ln kf ρ f) → ∃ τ, sv_BOk τ q_x1.2.2.1 ∧ ∀ f ∈ q_x1.2.2.2, sv_FQk q_Ks q_Q g ln kf (ρ ++ τ) f := by
  intro g ln kf ρ hb hf
  obtain ⟨hl, hb⟩ := hb
  obtain ⟨xa, r0, rfl, l0⟩ := sv_lens hl
  obtain ⟨xi, r1, rfl, l1⟩ := sv_lens l0
  obtain rfl := sv_len0 l1
  clear l0 l1 hl
  have ba : 0 ≤ xa := (hb 0 _ _ rfl rfl).1
  clear hb
  have h0 := hf _ (List.mem_of_getElem? (i := 0) rfl)
  simp [sv_FQk, sv_FQ, sv_evs, sv_ev, sv_evT, sv_nth, sv_adq, sv_gs] at h0
  have h1 := hf _ (List.mem_of_getElem? (i := 1) rfl)
  simp [sv_FQk, sv_FQ, sv_evs, sv_ev, sv_evT, sv_nth, sv_adq, sv_gs] at h1
  clear hf
  have Ka : kf xa = 63 := by omega
  refine ⟨[1], sv_BOk_1 (by omega) (by omega), ?_⟩
  intro f hf
  have hf : f ∈ [(34, [], [(0, [(0, 1)]), (0, [(1, 1)]), (0, [(2, 1)])])] := hf
  simp only [List.mem_cons, List.not_mem_nil, or_false] at hf
  subst hf
  · simp [sv_FQk, sv_FQ, sv_evs, sv_ev, sv_evT, sv_nth, sv_adq, sv_gs, q_Ks_18, q_Q_18]
    refine ⟨⟨ba, Ka⟩, ?_⟩
    rw [sv_Qw16_iff]
    intro a b
    omega
-- w16_m
def q_x2 : SvE := ([(0, none)], [(1, [63], [(0, [(0, 1)])])], [(1, some (1))], [(34, [], [(0, [(0, 1)]), (-1, []), (0, [(1, 1)])])])
theorem q_x2_ok : ∀ (g : Int → Int → Int) (ln : Int → Int) (kf : Int → Nat) (ρ : List Int), sv_BOk ρ q_x2.1 → (∀ f ∈ q_x2.2.1, sv_FQk q_Ks q_Q g ln kf ρ f) → ∃ τ, sv_BOk τ q_x2.2.2.1 ∧ ∀ f ∈ q_x2.2.2.2, sv_FQk q_Ks q_Q g ln kf (ρ ++ τ) f := by
  intro g ln kf ρ hb hf
  obtain ⟨hl, hb⟩ := hb
  obtain ⟨xa, r0, rfl, l0⟩ := sv_lens hl
  obtain rfl := sv_len0 l0
  clear l0 hl
  have ba : 0 ≤ xa := (hb 0 _ _ rfl rfl).1
  clear hb
  have h0 := hf _ (List.mem_of_getElem? (i := 0) rfl)
  simp [sv_FQk, sv_FQ, sv_evs, sv_ev, sv_evT, sv_nth, sv_adq, sv_gs] at h0
  clear hf
  have Ka : kf xa = 63 := by omega
  refine ⟨[1], sv_BOk_1 (by omega) (by omega), ?_⟩
  intro f hf
  have hf : f ∈ [(34, [], [(0, [(0, 1)]), (-1, []), (0, [(1, 1)])])] := hf
  simp only [List.mem_cons, List.not_mem_nil, or_false] at hf
  subst hf
  · simp [sv_FQk, sv_FQ, sv_evs, sv_ev, sv_evT, sv_nth, sv_adq, sv_gs, q_Ks_18, q_Q_18]
    refine ⟨⟨ba, Ka⟩, ?_⟩
    rw [sv_Qw16_iff]
    intro a b
    omega
-- w16_p
def q_x3 : SvE := ([(0, none)], [(1, [63], [(0, [(0, 1)])])], [(1, some (1))], [(34, [], [(0, [(0, 1)]), (16383, []), (0, [(1, 1)])])])
theorem q_x3_ok : ∀ (g : Int → Int → Int) (ln : Int → Int) (kf : Int → Nat) (ρ : List Int), sv_BOk ρ q_x3.1 → (∀ f ∈ q_x3.2.1, sv_FQk q_Ks q_Q g ln kf ρ f) → ∃ τ, sv_BOk τ q_x3.2.2.1 ∧ ∀ f ∈ q_x3.2.2.2, sv_FQk q_Ks q_Q g ln kf (ρ ++ τ) f := by
  intro g ln kf ρ hb hf
  obtain ⟨hl, hb⟩ := hb
  obtain ⟨xa, r0, rfl, l0⟩ := sv_lens hl
  obtain rfl := sv_len0 l0
  clear l0 hl
  have ba : 0 ≤ xa := (hb 0 _ _ rfl rfl).1
  clear hb
  have h0 := hf _ (List.mem_of_getElem? (i := 0) rfl)
  simp [sv_FQk, sv_FQ, sv_evs, sv_ev, sv_evT, sv_nth, sv_adq, sv_gs] at h0
  clear hf
  have Ka : kf xa = 63 := by omega
  refine ⟨[1], sv_BOk_1 (by omega) (by omega), ?_⟩
  intro f hf
  have hf : f ∈ [(34, [], [(0, [(0, 1)]), (16383, []), (0, [(1, 1)])])] := hf
  simp only [List.mem_cons, List.not_mem_nil, or_false] at hf
  subst hf
  · simp [sv_FQk, sv_FQ, sv_evs, sv_ev, sv_evT, sv_nth, sv_adq, sv_gs, q_Ks_18, q_Q_18]
    refine ⟨⟨ba, Ka⟩, ?_⟩
    rw [sv_Qw16_iff]
    intro a b
    omega
-- op_0
def q_x4 : SvE := ([(0, none), (-1180591620717411303424, none)], [(1, [129], [(0, [(0, 1)])])], [], [(36, [], [(0, [(0, 1)]), (0, [(1, 1)]), (0, [])])])
theorem q_x4_ok : ∀ (g : Int → Int → Int) (ln : Int → Int) (kf : Int → Nat) (ρ : List Int), sv_BOk ρ q_x4.1 → (∀ f ∈ q_x4.2.1, sv_FQk q_Ks q_Q g ln kf ρ f) → ∃ τ, sv_BOk τ q_x4.2.2.1 ∧ ∀ f ∈ q_x4.2.2.2, sv_FQk q_Ks q_Q g ln kf (ρ ++ τ) f := by
  intro g ln kf ρ hb hf
  obtain ⟨hl, hb⟩ := hb
  obtain ⟨xa, r0, rfl, l0⟩ := sv_lens hl
  obtain ⟨xk, r1, rfl, l1⟩ := sv_lens l0
  obtain rfl := sv_len0 l1
  clear l0 l1 hl
  have ba : 0 ≤ xa := (hb 0 _ _ rfl rfl).1
  clear hb
  have h0 := hf _ (List.mem_of_getElem? (i := 0) rfl)
  simp [sv_FQk, sv_FQ, sv_evs, sv_ev, sv_evT, sv_nth, sv_adq, sv_gs] at h0
  clear hf
  have Ka : kf xa = 129 := by omega
  refine ⟨[], sv_BOk_0, ?_⟩
  intro f hf
  have hf : f ∈ [(36, [], [(0, [(0, 1)]), (0, [(1, 1)]), (0, [])])] := hf
  simp only [List.mem_cons, List.not_mem_nil, or_false] at hf
  subst hf
  · simp [sv_FQk, sv_FQ, sv_evs, sv_ev, sv_evT, sv_nth, sv_adq, sv_gs, q_Ks_20, q_Q_20]
    refine ⟨⟨ba, Ka⟩, ?_⟩
    rw [sv_Qop_iff]
    exact Or.inl (by omega)
