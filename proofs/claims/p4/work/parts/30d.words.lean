-- ===== the words of fields out of one number =====
def sv_ud : Nat → Int → Nat → Int
  | 0, _, _ => 0
  | n + 1, c, j => if j = n then c % 256 else sv_ud n (c / 256) j
theorem sv_ud_ok {f : Int → Int} : ∀ {n : Nat} {c : Int}, sv_hn f n = c → (∀ j : Int, 0 ≤ j → j < n → 0 ≤ f j ∧ f j ≤ 255) → ∀ j : Nat, j < n → f j = sv_ud n c j
  | 0, _, _, _, j, hj => absurd hj (by omega)
  | n + 1, c, h, hb, j, hj => by
    simp only [sv_hn] at h
    have b := hb n (by omega) (by omega)
    unfold sv_ud
    by_cases e : j = n
    · rw [if_pos e, e]
      omega
    · rw [if_neg e]
      exact sv_ud_ok (n := n) (by omega) (fun i i1 i2 => hb i i1 (by omega)) j (by omega)
def sv_W1 : Int := 368680276301726440449895897154055222909216971687047867454027070932831799701306573381817027206304140923279197899474295605395854142304743385580244403112746247456
def sv_W2 : Int := 23797387226061030307645
def sv_Wl : List Nat := [107, 105, 110, 100, 32, 115, 105, 122, 101, 32, 109, 97, 100, 101, 32, 97, 108, 116, 101, 114, 101, 100, 32, 101, 114, 97, 115, 101, 100, 32, 103, 114, 97, 100, 101, 32, 98, 108, 111, 99, 107, 32, 112, 97, 114, 116, 115, 32, 102, 97, 117, 108, 116, 115, 32, 100, 101, 112, 116, 104, 32, 110, 97, 109, 101, 32]
def sv_Tl : List Nat := [0, 5, 10, 15, 23, 30, 36, 42, 48, 55, 61]
theorem sv_W1_ok : (List.range 66).all (fun j => sv_ud 66 sv_W1 j == ((sv_Wl.getD j 0 : Nat) : Int)) = true := by decide +kernel
theorem sv_W2_ok : (List.range 11).all (fun j => sv_ud 11 sv_W2 j == ((sv_Tl.getD j 0 : Nat) : Int) && Nat.ble (sv_Tl.getD j 0) 64) = true := by decide +kernel
def sv_fwc (i k n : Nat) : Bool := Nat.beq n 0 || Nat.blt 65 (sv_Tl.getD i 0 + n) || Nat.beq (sv_Wl.getD (sv_Tl.getD i 0 + n) 0) 32 || !((List.range n).all (fun j => Nat.ble 66 (sv_Tl.getD k 0 + j) || Nat.beq (sv_Wl.getD (sv_Tl.getD i 0 + j) 0) (sv_Wl.getD (sv_Tl.getD k 0 + j) 0))) || Nat.ble (sv_Tl.getD k 0 + n + 1) 65
theorem sv_fwc_ok : (List.range 11).all (fun i => (List.range 11).all (fun k => (List.range 66).all (fun n => sv_fwc i k n))) = true := by decide +kernel
theorem sv_fw_of {w f : Int → Int} (h0 : sv_hn w 66 = sv_W1) (b0 : ∀ j, 0 ≤ j → j < 66 → 0 ≤ w j ∧ w j ≤ 255) (h1 : sv_hn f 11 = sv_W2) (b1 : ∀ j, 0 ≤ j → j < 11 → 0 ≤ f j ∧ f j ≤ 255) : sv_Qfw [w, f] [] := by
  have cw : ∀ j : Nat, j < 66 → w j = ((sv_Wl.getD j 0 : Nat) : Int) := fun j hj => by
    rw [sv_ud_ok h0 b0 j hj]
    exact eq_of_beq (List.all_eq_true.mp sv_W1_ok j (List.mem_range.mpr hj))
  have cf : ∀ j : Nat, j < 11 → f j = ((sv_Tl.getD j 0 : Nat) : Int) ∧ sv_Tl.getD j 0 ≤ 64 := fun j hj => by
    have q := List.all_eq_true.mp sv_W2_ok j (List.mem_range.mpr hj)
    rw [Bool.and_eq_true] at q
    rw [sv_ud_ok h1 b1 j hj]
    exact ⟨eq_of_beq q.1, Nat.le_of_ble_eq_true q.2⟩
  rw [sv_Qfw_iff]
  refine ⟨fun i i1 i2 => ?_, fun i k n i1 i2 k1 k2 n1 n2 hm hw => ?_⟩
  · obtain ⟨m, rfl⟩ := Int.eq_ofNat_of_zero_le i1
    have q := cf m (by omega)
    omega
  · obtain ⟨i, rfl⟩ := Int.eq_ofNat_of_zero_le i1
    obtain ⟨k, rfl⟩ := Int.eq_ofNat_of_zero_le k1
    obtain ⟨n, rfl⟩ := Int.eq_ofNat_of_zero_le (show 0 ≤ n by omega)
    have qi := cf i (by omega)
    have qk := cf k (by omega)
    have q := List.all_eq_true.mp (List.all_eq_true.mp (List.all_eq_true.mp sv_fwc_ok i (List.mem_range.mpr (by omega))) k (List.mem_range.mpr (by omega))) n (List.mem_range.mpr (by omega))
    unfold sv_fwc at q
    simp only [Bool.or_eq_true, Bool.not_eq_true'] at q
    rcases q with (((q | q) | q) | q) | q
    · have := Nat.eq_of_beq_eq_true q
      omega
    · have := Nat.le_of_ble_eq_true q
      omega
    · have e := Nat.eq_of_beq_eq_true q
      have u := cw (sv_Tl.getD i 0 + n) (by omega)
      rw [e] at u
      refine absurd ?_ hw
      rw [qi.1]
      exact u
    · refine absurd q (by
        rw [Bool.not_eq_false, List.all_eq_true]
        intro j hj
        have hj := List.mem_range.mp hj
        have m := hm j (by omega) (by omega)
        rw [qi.1, qk.1] at m
        rw [Bool.or_eq_true]
        by_cases hy : 66 ≤ sv_Tl.getD k 0 + j
        · exact Or.inl (Nat.ble_eq_true_of_le hy)
        · have u := cw (sv_Tl.getD i 0 + j) (by omega)
          have v := cw (sv_Tl.getD k 0 + j) (by omega)
          have z : ((sv_Wl.getD (sv_Tl.getD i 0 + j) 0 : Nat) : Int) = ((sv_Wl.getD (sv_Tl.getD k 0 + j) 0 : Nat) : Int) := by
            rw [← u, ← v]
            exact m
          exact Or.inr (by rw [Int.ofNat.inj z]; exact Nat.beq_refl _))
    · have := Nat.le_of_ble_eq_true q
      omega
