-- ===== laws of what arrays hold: a first one =====
theorem sv_lens {ρ : List Int} {n : Nat} (h : ρ.length = n + 1) : ∃ (x : Int) (t : List Int), ρ = x :: t ∧ t.length = n := by
  cases ρ with
  | nil => cases h
  | cons x t => exact ⟨x, t, rfl, by simpa using h⟩
theorem sv_len0 {ρ : List Int} (h : ρ.length = 0) : ρ = [] := List.eq_nil_of_length_eq_zero h
/-- names: from, to -/
def sv_Qnm : List (Int → Int) → List Int → Prop
  | [f, t], [n] => ∀ i, 0 ≤ i → i < n → t i - f i ≤ 14
  | _, _ => False
def sv_tKs : Nat → List Nat
  | 0 => [101, 102]
  | _ => []
def sv_tQ : Nat → List (Int → Int) → List Int → Prop
  | 0 => sv_Qnm
  | _ => fun _ _ => True
def sv_tl : SvM := ([(0, none), (0, none), (0, none), (0, none), (0, none), (0, none), (0, none), (0, none)],
  [(16, [], [(0, [(0, 1)]), (0, [(1, 1)]), (0, [(5, 1)])]), (4, [101, 1], [(0, [(0, 1)]), (0, [(2, 1)]), (0, [(3, 1)])]), (4, [102, 1], [(0, [(1, 1)]), (0, [(2, 1)]), (0, [(4, 1)])]), (2, [], [(0, [(0, 1)]), (0, [(6, 1)])]), (2, [], [(0, [(1, 1)]), (0, [(7, 1)])]), (0, [], [(-1, [(2, -1), (5, 1)])]), (0, [], [(-1, [(2, -1), (6, 1)])]), (0, [], [(-1, [(2, -1), (7, 1)])])],
  [(0, [], [(14, [(3, 1), (4, -1)])])])
theorem sv_tl_ok : ∀ (g : Int → Int → Int) (ln : Int → Int) (kf : Int → Nat) (ρ : List Int), sv_BOk ρ sv_tl.1 → (∀ f ∈ sv_tl.2.1, sv_FQk sv_tKs sv_tQ g ln kf ρ f) → ∀ f ∈ sv_tl.2.2, sv_FQk sv_tKs sv_tQ g ln kf ρ f := by
  intro g ln kf ρ hb hf
  obtain ⟨hl, hb⟩ := hb
  obtain ⟨x0, r0, rfl, l0⟩ := sv_lens hl
  obtain ⟨x1, r1, rfl, l1⟩ := sv_lens l0
  obtain ⟨x2, r2, rfl, l2⟩ := sv_lens l1
  obtain ⟨x3, r3, rfl, l3⟩ := sv_lens l2
  obtain ⟨x4, r4, rfl, l4⟩ := sv_lens l3
  obtain ⟨x5, r5, rfl, l5⟩ := sv_lens l4
  obtain ⟨x6, r6, rfl, l6⟩ := sv_lens l5
  obtain ⟨x7, r7, rfl, l7⟩ := sv_lens l6
  obtain rfl := sv_len0 l7
  clear l0 l1 l2 l3 l4 l5 l6 l7 hl
  have b0 := (hb 0 _ _ rfl rfl).1
  have b1 := (hb 1 _ _ rfl rfl).1
  have b2 := (hb 2 _ _ rfl rfl).1
  clear hb
  simp [sv_tl, sv_FQk, sv_FQ, sv_evs, sv_ev, sv_evT, sv_nth, sv_adq, sv_gs, sv_tKs, sv_tQ, sv_Qnm] at hf ⊢
  obtain ⟨⟨⟨h1, h2⟩, h3⟩, h4, h5, h6, h7, h8, h9, h10⟩ := hf
  have e := h3 x2 b2 (by omega)
  have e1 := h4 b0 b2 (by have := h6 b0; omega)
  have e2 := h5 b1 b2 (by have := h7 b1; omega)
  omega
