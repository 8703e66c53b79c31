-- ===== laws that bring numbers, of pure functions =====
section SVPE
variable {Ks : Nat → List Nat} {Q : Nat → List (Int → Int) → List Int → Prop} {D : va_G} {AC : Nat → ClassId} {kd : List SvK} {B0 : Nat}
theorem sv_pureE (h0 : ∀ n, ∀ K ∈ Ks n, K ≠ 0) {E : List SvE} (h1 : ∀ m ∈ E, ∀ f ∈ m.2.1, sv_tgh f = true) (h2 : ∀ m ∈ E, ∀ f ∈ m.2.2.2, sv_tgg f = true)
    (h : ∀ m ∈ E, ∀ (g : Int → Int → Int) (ln : Int → Int) (kf : Int → Nat) (ρ : List Int), sv_BOk ρ m.1 → (∀ f ∈ m.2.1, sv_FQk Ks Q g ln kf ρ f) → ∃ τ, sv_BOk τ m.2.2.1 ∧ ∀ f ∈ m.2.2.2, sv_FQk Ks Q g ln kf (ρ ++ τ) f) : sv_LeOk (sv_P Ks Q) D AC kd B0 E := by
  intro m hm κ H ρ hT hb hf
  obtain ⟨τ, t1, t2⟩ := h m hm _ _ _ ρ hb (fun f' hf' => sv_FQ_of (h1 m hm f' hf') (hf f' hf'))
  refine ⟨τ, t1, fun f hfm => sv_of_FQ (fun q hq => ?_) h0 (h2 m hm f hfm) (t2 f hfm)⟩
  obtain ⟨K, cell, -, hc, -⟩ := hT.1 q hq
  exact sv_lt hc
end SVPE
theorem sv_BOk_0 : sv_BOk [] [] := ⟨rfl, fun i x q h _ => by
  rw [sv_nth_eq] at h
  simp at h⟩
theorem sv_BOk_1 {lo hi x : Int} (h1 : lo ≤ x) (h2 : x ≤ hi) : sv_BOk [x] [(lo, some hi)] := sv_BOk_add (ρ := []) (b := []) sv_BOk_0 h1 (fun h e => by
  cases e
  exact h2)
