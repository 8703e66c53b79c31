-- ===== opaque facts: tables =====
def q_Ks : Nat → List Nat
  | 0 => [67]
  | 1 => [67]
  | 2 => [67]
  | 3 => [65, 66]
  | 4 => [58]
  | 5 => [42, 45, 46, 44]
  | 6 => [45, 46, 44]
  | 7 => [58, 59, 45]
  | 8 => []
  | 9 => [58]
  | 10 => [106, 107]
  | 11 => [63]
  | 12 => [63, 106]
  | 13 => [118]
  | 14 => [101]
  | 15 => [57]
  | 16 => [167]
  | 17 => [30]
  | 18 => [63]
  | 19 => [63]
  | 20 => [129]
  | 21 => [129]
  | 22 => [128]
  | 23 => [128]
  | 24 => [130, 132]
  | 25 => [125, 126]
  | 26 => [125, 126, 38]
  | 27 => [125, 126, 38]
  | 28 => [146, 147]
  | 29 => [38]
  | 30 => [74]
  | 31 => [94, 93]
  | 32 => [94]
  | 33 => [99]
  | 34 => [99, 100, 93]
  | 35 => [84]
  | 36 => [97, 98, 84, 75, 76, 77, 78]
  | 37 => [97, 75, 76, 77, 78]
  | 38 => [109, 110, 111, 84, 75, 76, 77, 78]
  | 39 => [113, 114, 115, 117, 111, 112]
  | 40 => [114, 115]
  | 41 => [125]
  | 42 => [126]
  | _ => []
def q_Q : Nat → List (Int → Int) → List Int → Prop
  | 0 => sv_Qlin (1) (0)
  | 1 => sv_Qds
  | 2 => sv_Qni
  | 3 => sv_Qlin2 (-1) (1)
  | 4 => sv_Qlin (1) (1)
  | 5 => sv_Qvol
  | 6 => sv_Qvok
  | 7 => sv_Qwb
  | 8 => sv_Qpw
  | 9 => sv_Qsm
  | 10 => sv_Qlin2 (1) (1)
  | 11 => sv_Qlin (1) (0)
  | 12 => sv_Qhd
  | 13 => sv_Qlin (1) (0)
  | 14 => sv_Qlin (1) (0)
  | 15 => sv_Qsr
  | 16 => sv_Qlb
  | 17 => sv_Qb16
  | 18 => sv_Qw16
  | 19 => sv_Qpb
  | 20 => sv_Qop
  | 21 => sv_Qbn
  | 22 => sv_Qdp
  | 23 => sv_Qlin (1) (0)
  | 24 => sv_Qak
  | 25 => sv_Qfw
  | 26 => sv_Qgd
  | 27 => sv_Qmt
  | 28 => sv_Qcl
  | 29 => sv_Qwk
  | 30 => sv_Qcg
  | 31 => sv_Qfc
  | 32 => sv_Qlb
  | 33 => sv_Qlin (1) (0)
  | 34 => sv_Qcp
  | 35 => sv_Qcn
  | 36 => sv_Qsrc
  | 37 => sv_Qsn
  | 38 => sv_Qos
  | 39 => sv_Qpt
  | 40 => sv_Qpn
  | 41 => sv_Qhn
  | 42 => sv_Qhn
  | _ => fun _ _ => False
theorem q_Ks_0 : q_Ks 0 = [67] := rfl
theorem q_Q_0 : q_Q 0 = sv_Qlin (1) (0) := rfl
theorem q_Ks_1 : q_Ks 1 = [67] := rfl
theorem q_Q_1 : q_Q 1 = sv_Qds := rfl
theorem q_Ks_2 : q_Ks 2 = [67] := rfl
theorem q_Q_2 : q_Q 2 = sv_Qni := rfl
theorem q_Ks_3 : q_Ks 3 = [65, 66] := rfl
theorem q_Q_3 : q_Q 3 = sv_Qlin2 (-1) (1) := rfl
theorem q_Ks_4 : q_Ks 4 = [58] := rfl
theorem q_Q_4 : q_Q 4 = sv_Qlin (1) (1) := rfl
theorem q_Ks_5 : q_Ks 5 = [42, 45, 46, 44] := rfl
theorem q_Q_5 : q_Q 5 = sv_Qvol := rfl
theorem q_Ks_6 : q_Ks 6 = [45, 46, 44] := rfl
theorem q_Q_6 : q_Q 6 = sv_Qvok := rfl
theorem q_Ks_7 : q_Ks 7 = [58, 59, 45] := rfl
theorem q_Q_7 : q_Q 7 = sv_Qwb := rfl
theorem q_Ks_8 : q_Ks 8 = [] := rfl
theorem q_Q_8 : q_Q 8 = sv_Qpw := rfl
theorem q_Ks_9 : q_Ks 9 = [58] := rfl
theorem q_Q_9 : q_Q 9 = sv_Qsm := rfl
theorem q_Ks_10 : q_Ks 10 = [106, 107] := rfl
theorem q_Q_10 : q_Q 10 = sv_Qlin2 (1) (1) := rfl
theorem q_Ks_11 : q_Ks 11 = [63] := rfl
theorem q_Q_11 : q_Q 11 = sv_Qlin (1) (0) := rfl
theorem q_Ks_12 : q_Ks 12 = [63, 106] := rfl
theorem q_Q_12 : q_Q 12 = sv_Qhd := rfl
theorem q_Ks_13 : q_Ks 13 = [118] := rfl
theorem q_Q_13 : q_Q 13 = sv_Qlin (1) (0) := rfl
theorem q_Ks_14 : q_Ks 14 = [101] := rfl
theorem q_Q_14 : q_Q 14 = sv_Qlin (1) (0) := rfl
theorem q_Ks_15 : q_Ks 15 = [57] := rfl
theorem q_Q_15 : q_Q 15 = sv_Qsr := rfl
theorem q_Ks_16 : q_Ks 16 = [167] := rfl
theorem q_Q_16 : q_Q 16 = sv_Qlb := rfl
theorem q_Ks_17 : q_Ks 17 = [30] := rfl
theorem q_Q_17 : q_Q 17 = sv_Qb16 := rfl
theorem q_Ks_18 : q_Ks 18 = [63] := rfl
theorem q_Q_18 : q_Q 18 = sv_Qw16 := rfl
theorem q_Ks_19 : q_Ks 19 = [63] := rfl
theorem q_Q_19 : q_Q 19 = sv_Qpb := rfl
theorem q_Ks_20 : q_Ks 20 = [129] := rfl
theorem q_Q_20 : q_Q 20 = sv_Qop := rfl
theorem q_Ks_21 : q_Ks 21 = [129] := rfl
theorem q_Q_21 : q_Q 21 = sv_Qbn := rfl
theorem q_Ks_22 : q_Ks 22 = [128] := rfl
theorem q_Q_22 : q_Q 22 = sv_Qdp := rfl
theorem q_Ks_23 : q_Ks 23 = [128] := rfl
theorem q_Q_23 : q_Q 23 = sv_Qlin (1) (0) := rfl
theorem q_Ks_24 : q_Ks 24 = [130, 132] := rfl
theorem q_Q_24 : q_Q 24 = sv_Qak := rfl
theorem q_Ks_25 : q_Ks 25 = [125, 126] := rfl
theorem q_Q_25 : q_Q 25 = sv_Qfw := rfl
theorem q_Ks_26 : q_Ks 26 = [125, 126, 38] := rfl
theorem q_Q_26 : q_Q 26 = sv_Qgd := rfl
theorem q_Ks_27 : q_Ks 27 = [125, 126, 38] := rfl
theorem q_Q_27 : q_Q 27 = sv_Qmt := rfl
theorem q_Ks_28 : q_Ks 28 = [146, 147] := rfl
theorem q_Q_28 : q_Q 28 = sv_Qcl := rfl
theorem q_Ks_29 : q_Ks 29 = [38] := rfl
theorem q_Q_29 : q_Q 29 = sv_Qwk := rfl
theorem q_Ks_30 : q_Ks 30 = [74] := rfl
theorem q_Q_30 : q_Q 30 = sv_Qcg := rfl
theorem q_Ks_31 : q_Ks 31 = [94, 93] := rfl
theorem q_Q_31 : q_Q 31 = sv_Qfc := rfl
theorem q_Ks_32 : q_Ks 32 = [94] := rfl
theorem q_Q_32 : q_Q 32 = sv_Qlb := rfl
theorem q_Ks_33 : q_Ks 33 = [99] := rfl
theorem q_Q_33 : q_Q 33 = sv_Qlin (1) (0) := rfl
theorem q_Ks_34 : q_Ks 34 = [99, 100, 93] := rfl
theorem q_Q_34 : q_Q 34 = sv_Qcp := rfl
theorem q_Ks_35 : q_Ks 35 = [84] := rfl
theorem q_Q_35 : q_Q 35 = sv_Qcn := rfl
theorem q_Ks_36 : q_Ks 36 = [97, 98, 84, 75, 76, 77, 78] := rfl
theorem q_Q_36 : q_Q 36 = sv_Qsrc := rfl
theorem q_Ks_37 : q_Ks 37 = [97, 75, 76, 77, 78] := rfl
theorem q_Q_37 : q_Q 37 = sv_Qsn := rfl
theorem q_Ks_38 : q_Ks 38 = [109, 110, 111, 84, 75, 76, 77, 78] := rfl
theorem q_Q_38 : q_Q 38 = sv_Qos := rfl
theorem q_Ks_39 : q_Ks 39 = [113, 114, 115, 117, 111, 112] := rfl
theorem q_Q_39 : q_Q 39 = sv_Qpt := rfl
theorem q_Ks_40 : q_Ks 40 = [114, 115] := rfl
theorem q_Q_40 : q_Q 40 = sv_Qpn := rfl
theorem q_Ks_41 : q_Ks 41 = [125] := rfl
theorem q_Q_41 : q_Q 41 = sv_Qhn := rfl
theorem q_Ks_42 : q_Ks 42 = [126] := rfl
theorem q_Q_42 : q_Q 42 = sv_Qhn := rfl
def q_P : Nat → List Nat → List Int → (Nat → Nat) → Heap → Prop := sv_P q_Ks q_Q
def q_sup : Nat → List Nat × List Nat := sv_psup q_Ks
theorem q_Ks_ne : ∀ n, ∀ K ∈ q_Ks n, K ≠ 0 := by
  intro n K h
  unfold q_Ks at h
  split at h <;> simp only [List.mem_cons, List.not_mem_nil, or_false, or_self] at h <;> omega
theorem sv_lens {ρ : List Int} {n : Nat} (h : ρ.length = n + 1) : ∃ (x : Int) (t : List Int), ρ = x :: t ∧ t.length = n := by
  cases ρ with
  | nil => cases h
  | cons x t => exact ⟨x, t, rfl, by simpa using h⟩
theorem sv_len0 {ρ : List Int} (h : ρ.length = 0) : ρ = [] := List.eq_nil_of_length_eq_zero h
