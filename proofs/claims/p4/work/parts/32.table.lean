-- ===== opaque facts: tables =====
def q_Ks : Nat → List Nat
  | 0 => [67]
  | 1 => [67]
  | 2 => [67]
  | 3 => [65, 66]
  | 4 => [58]
  | 5 => [42, 45, 46, 44]
  | 6 => [45, 46, 44]
  | 7 => [58, 59, 45]
  | 8 => []
  | 9 => [58]
  | 10 => [106, 107]
  | 11 => [63]
  | 12 => [63, 106]
  | 13 => [118]
  | 14 => [101]
  | 15 => [57]
  | 16 => [167]
  | 17 => [30]
  | 18 => [63]
  | 19 => [63]
  | 20 => [129]
  | 21 => [129]
  | 22 => [128]
  | 23 => [128]
  | 24 => [130, 132]
  | 25 => [125, 126]
  | 26 => [125, 126, 38]
  | 27 => [125, 126, 38]
  | 28 => [146, 147]
  | 29 => [38]
  | 30 => [74]
  | 31 => [94, 93]
  | 32 => [94]
  | 33 => [99]
  | 34 => [99, 100, 93]
  | 35 => [84]
  | 36 => [97, 98, 84, 75, 76, 77, 78]
  | 37 => [97, 75, 76, 77, 78]
  | 38 => [109, 110, 111, 84, 75, 76, 77, 78]
  | 39 => [113, 114, 115, 117, 111, 112]
  | 40 => [114, 115]
  | _ => []
def q_Q : Nat → List (Int → Int) → List Int → Prop
  | 0 => sv_Qlin (1) (0)
  | 1 => sv_Qds
  | 2 => sv_Qni
  | 3 => sv_Qlin2 (-1) (1)
  | 4 => sv_Qlin (1) (1)
  | 5 => sv_Qvol
  | 6 => sv_Qvok
  | 7 => sv_Qwb
  | 8 => sv_Qpw
  | 9 => sv_Qsm
  | 10 => sv_Qlin2 (1) (1)
  | 11 => sv_Qlin (1) (0)
  | 12 => sv_Qhd
  | 13 => sv_Qlin (1) (0)
  | 14 => sv_Qlin (1) (0)
  | 15 => sv_Qsr
  | 16 => sv_Qlb
  | 17 => sv_Qb16
  | 18 => sv_Qw16
  | 19 => sv_Qpb
  | 20 => sv_Qop
  | 21 => sv_Qbn
  | 22 => sv_Qdp
  | 23 => sv_Qlin (1) (0)
  | 24 => sv_Qak
  | 25 => sv_Qfw
  | 26 => sv_Qgd
  | 27 => sv_Qmt
  | 28 => sv_Qcl
  | 29 => sv_Qwk
  | 30 => sv_Qcg
  | 31 => sv_Qfc
  | 32 => sv_Qlb
  | 33 => sv_Qlin (1) (0)
  | 34 => sv_Qcp
  | 35 => sv_Qcn
  | 36 => sv_Qsrc
  | 37 => sv_Qsn
  | 38 => sv_Qos
  | 39 => sv_Qpt
  | 40 => sv_Qpn
  | _ => fun _ _ => False
def q_P : Nat → List Nat → List Int → (Nat → Nat) → Heap → Prop := sv_P q_Ks q_Q
def q_sup : Nat → List Nat × List Nat := sv_psup q_Ks
theorem q_Ks_ne : ∀ n, ∀ K ∈ q_Ks n, K ≠ 0 := by
  intro n K h
  unfold q_Ks at h
  split at h <;> simp only [List.mem_cons, List.not_mem_nil, or_false, or_self] at h <;> omega
theorem sv_lens {ρ : List Int} {n : Nat} (h : ρ.length = n + 1) : ∃ (x : Int) (t : List Int), ρ = x :: t ∧ t.length = n := by
  cases ρ with
  | nil => cases h
  | cons x t => exact ⟨x, t, rfl, by simpa using h⟩
theorem sv_len0 {ρ : List Int} (h : ρ.length = 0) : ρ = [] := List.eq_nil_of_length_eq_zero h
