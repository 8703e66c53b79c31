-- ===== opaque facts: tables =====
def q_Ks : Nat → List Nat
  | 0 => [67]
  | 1 => [67]
  | 2 => [67]
  | 3 => [65, 66]
  | 4 => [58]
  | 5 => [42, 45, 46, 44]
  | 6 => [45, 46, 44]
  | 7 => [58, 59, 45]
  | 8 => []
  | 9 => [58]
  | _ => []
def q_Q : Nat → List (Int → Int) → List Int → Prop
  | 0 => sv_Qlin (1) (0)
  | 1 => sv_Qds
  | 2 => sv_Qni
  | 3 => sv_Qlin2 (-1) (1)
  | 4 => sv_Qlin (1) (1)
  | 5 => sv_Qvol
  | 6 => sv_Qvok
  | 7 => sv_Qwb
  | 8 => sv_Qpw
  | 9 => sv_Qsm
  | _ => fun _ _ => False
def q_P : Nat → List Nat → List Int → (Nat → Nat) → Heap → Prop := sv_P q_Ks q_Q
def q_sup : Nat → List Nat × List Nat := sv_psup q_Ks
theorem q_Ks_ne : ∀ n, ∀ K ∈ q_Ks n, K ≠ 0 := by
  intro n K h
  unfold q_Ks at h
  split at h <;> simp only [List.mem_cons, List.not_mem_nil, or_false, or_self] at h <;> omega
theorem sv_lens {ρ : List Int} {n : Nat} (h : ρ.length = n + 1) : ∃ (x : Int) (t : List Int), ρ = x :: t ∧ t.length = n := by
  cases ρ with
  | nil => cases h
  | cons x t => exact ⟨x, t, rfl, by simpa using h⟩
theorem sv_len0 {ρ : List Int} (h : ρ.length = 0) : ρ = [] := List.eq_nil_of_length_eq_zero h
