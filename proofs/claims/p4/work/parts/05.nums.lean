-- ===== plain facts of counting =====
theorem sv_bvnn {n : Nat} {x : BitVec n} (h : 0 ≤ x.toInt) : x.toInt = (x.toNat : Int) ∧ 2 * x.toNat < 2 ^ n := by
  have h1 := BitVec.toInt_eq_toNat_cond x
  have h2 := x.isLt
  by_cases h3 : 2 * x.toNat < 2 ^ n
  · rw [if_pos h3] at h1
    exact ⟨h1, h3⟩
  · rw [if_neg h3] at h1
    omega
theorem sv_bvof {n : Nat} {x : BitVec n} (h : 2 * x.toNat < 2 ^ n) : x.toInt = (x.toNat : Int) := by
  rw [BitVec.toInt_eq_toNat_cond, if_pos h]
theorem sv_bvand {n : Nat} (x y : BitVec n) (h : 0 ≤ y.toInt) : 0 ≤ (x &&& y).toInt ∧ (x &&& y).toInt ≤ y.toInt := by
  obtain ⟨h1, h2⟩ := sv_bvnn h
  have h3 : (x &&& y).toNat ≤ y.toNat := by
    rw [BitVec.toNat_and]
    exact Nat.and_le_right
  have h4 := sv_bvof (x := x &&& y) (by omega)
  omega
theorem sv_bvand2 {n : Nat} (x y : BitVec n) (h : 0 ≤ x.toInt) : 0 ≤ (x &&& y).toInt ∧ (x &&& y).toInt ≤ x.toInt := by
  obtain ⟨h1, h2⟩ := sv_bvnn h
  have h3 : (x &&& y).toNat ≤ x.toNat := by
    rw [BitVec.toNat_and]
    exact Nat.and_le_left
  have h4 := sv_bvof (x := x &&& y) (by omega)
  omega
theorem sv_bvor {n k : Nat} (hn : 0 < n) (x y : BitVec n) (hx : 0 ≤ x.toInt) (hy : 0 ≤ y.toInt) (h1 : x.toInt < ((2 ^ k : Nat) : Int)) (h2 : y.toInt < ((2 ^ k : Nat) : Int)) : 0 ≤ (x ||| y).toInt ∧ (x ||| y).toInt < ((2 ^ k : Nat) : Int) := by
  obtain ⟨a1, a2⟩ := sv_bvnn hx
  obtain ⟨b1, b2⟩ := sv_bvnn hy
  have h3 : (x ||| y).toNat < 2 ^ k := by
    rw [BitVec.toNat_or]
    exact Nat.or_lt_two_pow (by omega) (by omega)
  have h5 : 2 * (x ||| y).toNat < 2 ^ n := by
    rw [BitVec.toNat_or]
    obtain ⟨j, rfl⟩ : ∃ j, n = j + 1 := ⟨n - 1, by omega⟩
    have e : 2 ^ (j + 1) = 2 * 2 ^ j := by rw [Nat.pow_succ]; omega
    have h6 : x.toNat ||| y.toNat < 2 ^ j := Nat.or_lt_two_pow (by omega) (by omega)
    omega
  have h4 := sv_bvof h5
  omega
theorem sv_bvxor {n k : Nat} (hn : 0 < n) (x y : BitVec n) (hx : 0 ≤ x.toInt) (hy : 0 ≤ y.toInt) (h1 : x.toInt < ((2 ^ k : Nat) : Int)) (h2 : y.toInt < ((2 ^ k : Nat) : Int)) : 0 ≤ (x ^^^ y).toInt ∧ (x ^^^ y).toInt < ((2 ^ k : Nat) : Int) := by
  obtain ⟨a1, a2⟩ := sv_bvnn hx
  obtain ⟨b1, b2⟩ := sv_bvnn hy
  have h3 : (x ^^^ y).toNat < 2 ^ k := by
    rw [BitVec.toNat_xor]
    exact Nat.xor_lt_two_pow (by omega) (by omega)
  have h5 : 2 * (x ^^^ y).toNat < 2 ^ n := by
    rw [BitVec.toNat_xor]
    obtain ⟨j, rfl⟩ : ∃ j, n = j + 1 := ⟨n - 1, by omega⟩
    have e : 2 ^ (j + 1) = 2 * 2 ^ j := by rw [Nat.pow_succ]; omega
    have h6 : x.toNat ^^^ y.toNat < 2 ^ j := Nat.xor_lt_two_pow (by omega) (by omega)
    omega
  have h4 := sv_bvof h5
  omega
theorem sv_bvors {n k : Nat} (hn : 0 < n) (x y : BitVec n) (hx : 0 ≤ x.toInt) (hy : 0 ≤ y.toInt) (a : Nat) (h1 : x.toInt = ((2 ^ k * a : Nat) : Int)) (h2 : y.toInt < ((2 ^ k : Nat) : Int)) (h3 : x.toInt + y.toInt < ((2 ^ (n - 1) : Nat) : Int)) : (x ||| y).toInt = x.toInt + y.toInt := by
  obtain ⟨a1, a2⟩ := sv_bvnn hx
  obtain ⟨b1, b2⟩ := sv_bvnn hy
  have e1 : x.toNat = 2 ^ k * a := by omega
  have e2 : (x ||| y).toNat = x.toNat + y.toNat := by
    rw [BitVec.toNat_or, e1]
    exact (Nat.two_pow_add_eq_or_of_lt (by omega) a).symm
  obtain ⟨j, rfl⟩ : ∃ j, n = j + 1 := ⟨n - 1, by omega⟩
  have e : 2 ^ (j + 1) = 2 * 2 ^ j := by rw [Nat.pow_succ]; omega
  rw [Nat.add_sub_cancel] at h3
  have h4 := sv_bvof (x := x ||| y) (by omega)
  omega
/-- a mask of the lowest bits: the rest by the power -/
theorem sv_bvmask {n k : Nat} (x y : BitVec n) (hk : k < n) (hy : y.toInt = ((2 ^ k - 1 : Nat) : Int)) : (x &&& y).toInt = x.toInt % ((2 ^ k : Nat) : Int) := by
  obtain ⟨b1, b2⟩ := sv_bvnn (x := y) (by omega)
  have e1 : y.toNat = 2 ^ k - 1 := by omega
  have e2 : (x &&& y).toNat = x.toNat % 2 ^ k := by
    rw [BitVec.toNat_and, e1, Nat.and_two_pow_sub_one_eq_mod]
  have hp : 0 < 2 ^ k := Nat.two_pow_pos k
  have h3 : x.toNat % 2 ^ k < 2 ^ k := Nat.mod_lt _ hp
  have h4 := sv_bvof (x := x &&& y) (by omega)
  rw [h4, e2, BitVec.toInt_eq_toNat_cond]
  have hd : (2 : Nat) ^ n = 2 ^ k * 2 ^ (n - k) := by rw [← Nat.pow_add]; congr 1; omega
  split
  · simp
  · rw [hd]
    have e3 : ((x.toNat : Int) - ((2 ^ k * 2 ^ (n - k) : Nat) : Int)) = (x.toNat : Int) + ((2 ^ k : Nat) : Int) * (-((2 ^ (n - k) : Nat) : Int)) := by
      rw [Int.mul_neg, Int.natCast_mul]
      omega
    rw [e3, Int.add_mul_emod_self_left]
    simp
theorem sv_rem32 (x y : Int32) (h : 0 < y.toInt) : (x - x / y * y).toInt = x.toInt.tmod y.toInt := by
  have h1 : (x / y).toInt = x.toInt.tdiv y.toInt := Int32.toInt_div_of_ne_right x y (fun q => by
    rw [q] at h
    have e : Int32.toInt (-1) = -1 := by decide
    omega)
  have h2 := Int.mul_tdiv_add_tmod x.toInt y.toInt
  have h3 := Int.tmod_lt_of_pos x.toInt h
  have h4 := Int.lt_tmod_of_pos x.toInt h
  have h5 := (sv_r1 y).2
  have e2 : sv_hi 1 = 2147483647 := rfl
  rw [e2] at h5
  rw [Int32.toInt_sub, Int32.toInt_mul, Int.sub_bmod_bmod, h1]
  have h6 : x.toInt - x.toInt.tdiv y.toInt * y.toInt = x.toInt.tmod y.toInt := by
    rw [Int.mul_comm]
    omega
  rw [h6]
  exact Int.bmod_eq_of_le_mul_two (by omega) (by omega)
theorem sv_rem64 (x y : Int64) (h : 0 < y.toInt) : (x - x / y * y).toInt = x.toInt.tmod y.toInt := by
  have h1 : (x / y).toInt = x.toInt.tdiv y.toInt := Int64.toInt_div_of_ne_right x y (fun q => by
    rw [q] at h
    have e : Int64.toInt (-1) = -1 := by decide
    omega)
  have h2 := Int.mul_tdiv_add_tmod x.toInt y.toInt
  have h3 := Int.tmod_lt_of_pos x.toInt h
  have h4 := Int.lt_tmod_of_pos x.toInt h
  have h5 := (sv_r2 y).2
  have e2 : sv_hi 2 = 9223372036854775807 := rfl
  rw [e2] at h5
  rw [Int64.toInt_sub, Int64.toInt_mul, Int.sub_bmod_bmod, h1]
  have h6 : x.toInt - x.toInt.tdiv y.toInt * y.toInt = x.toInt.tmod y.toInt := by
    rw [Int.mul_comm]
    omega
  rw [h6]
  exact Int.bmod_eq_of_le_mul_two (by omega) (by omega)
theorem sv_amt {y : Int32} {k : Nat} (hk : k < 32) (hy : y.toInt = (k : Int)) : y = nI k := by
  rw [← Int32.toInt_inj, hy, nI_toInt (by omega)]
theorem sv_amtS : ∀ k, k < 32 → (((nI k) &&& 31).toBitVec.smod 32).toNat = k := by decide +kernel
theorem sv_amtU : ∀ k, k < 32 → (((nI k).toUInt32 &&& Int32.toUInt32 31).toBitVec % 32).toNat = k := by decide +kernel
theorem sv_shl32 (x y : Int32) {k : Nat} (hk : k < 32) (hy : y.toInt = (k : Int)) : (x <<< (y &&& 31)).toInt = (x.toInt * ((2 ^ k : Nat) : Int)).bmod (2 ^ 32) := by
  have e := sv_amt hk hy
  subst e
  have h1 := pk_shl x (nI k &&& 31) k (sv_amtS k hk)
  have h2 : (x <<< (nI k &&& 31)).toInt = Int.bmod ((x <<< (nI k &&& 31)).toBitVec.toNat : Int) (2 ^ 32) := BitVec.toInt_eq_toNat_bmod _
  have h3 : x.toInt = Int.bmod (x.toBitVec.toNat : Int) (2 ^ 32) := BitVec.toInt_eq_toNat_bmod _
  rw [h2, h1, h3, Int.bmod_mul_bmod, Int.natCast_emod, Int.natCast_mul]
  exact Int.emod_bmod _ _
theorem sv_shr32 (x y : Int32) {k : Nat} (hk : k < 32) (hy : y.toInt = (k : Int)) : (x >>> (y &&& 31)).toInt = x.toInt / ((2 ^ k : Nat) : Int) := by
  have e := sv_amt hk hy
  subst e
  rw [pk_shr x (nI k &&& 31) k (sv_amtS k hk), Int.shiftRight_eq_div_pow]
theorem sv_ush32 (x y : Int32) {k : Nat} (hk : k < 32) (hy : y.toInt = (k : Int)) (hx : 0 ≤ x.toInt) : ((x.toUInt32 >>> (y.toUInt32 &&& Int32.toUInt32 31)).toInt32).toInt = x.toInt / ((2 ^ k : Nat) : Int) := by
  have e := sv_amt hk hy
  subst e
  have h1 := pk_ushr x (nI k) k (sv_amtU k hk)
  obtain ⟨a1, a2⟩ := sv_bvnn (x := x.toBitVec) hx
  have hp : 0 < 2 ^ k := Nat.two_pow_pos k
  have h2 : x.toBitVec.toNat / 2 ^ k ≤ x.toBitVec.toNat := Nat.div_le_self _ _
  have h3 := sv_bvof (x := ((x.toUInt32 >>> ((nI k).toUInt32 &&& Int32.toUInt32 31)).toInt32).toBitVec) (by rw [h1]; omega)
  have h4 : x.toInt = (x.toBitVec.toNat : Int) := a1
  show (((x.toUInt32 >>> ((nI k).toUInt32 &&& Int32.toUInt32 31)).toInt32).toBitVec).toInt = _
  rw [h3, h1, h4, Int.natCast_ediv]
theorem sv_ush32b (x y : Int32) {k : Nat} (hk : k < 32) (h0 : 0 < k) (hy : y.toInt = (k : Int)) : 0 ≤ ((x.toUInt32 >>> (y.toUInt32 &&& Int32.toUInt32 31)).toInt32).toInt ∧ ((x.toUInt32 >>> (y.toUInt32 &&& Int32.toUInt32 31)).toInt32).toInt < ((2 ^ (32 - k) : Nat) : Int) := by
  have e := sv_amt hk hy
  subst e
  have h1 := pk_ushr x (nI k) k (sv_amtU k hk)
  have hx := x.toBitVec.isLt
  have hp : 0 < 2 ^ k := Nat.two_pow_pos k
  have hd : (2 : Nat) ^ 32 = 2 ^ (32 - k) * 2 ^ k := by rw [← Nat.pow_add]; congr 1; omega
  have h2 : x.toBitVec.toNat / 2 ^ k < 2 ^ (32 - k) := Nat.div_lt_of_lt_mul (by rw [Nat.mul_comm, ← hd]; exact hx)
  have h5 : (2 : Nat) ^ (32 - k) ≤ 2 ^ 31 := Nat.pow_le_pow_right (by omega) (by omega)
  have h3 := sv_bvof (x := ((x.toUInt32 >>> ((nI k).toUInt32 &&& Int32.toUInt32 31)).toInt32).toBitVec) (by rw [h1]; omega)
  show 0 ≤ (((x.toUInt32 >>> ((nI k).toUInt32 &&& Int32.toUInt32 31)).toInt32).toBitVec).toInt ∧ (((x.toUInt32 >>> ((nI k).toUInt32 &&& Int32.toUInt32 31)).toInt32).toBitVec).toInt < _
  rw [h3, h1]
  omega
theorem sv_amtL : ∀ k, k < 64 → (((nI k).toInt64 &&& 63).toBitVec.smod 64).toNat = k := by decide +kernel
theorem sv_shr64 (x : Int64) (y : Int32) {k : Nat} (hk : k < 64) (hy : y.toInt = (k : Int)) : (x >>> (y.toInt64 &&& 63)).toInt = x.toInt / ((2 ^ k : Nat) : Int) := by
  have e : y = nI k := by rw [← Int32.toInt_inj, hy, nI_toInt (by omega)]
  subst e
  show (x.toBitVec.sshiftRight (((nI k).toInt64 &&& 63).toBitVec.smod 64).toNat).toInt = _
  rw [sv_amtL k hk, BitVec.toInt_sshiftRight, Int.shiftRight_eq_div_pow]
  rfl
