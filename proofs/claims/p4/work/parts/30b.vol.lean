-- ===== rows of volumes; what waits =====
/-- a volume by its kind, blocks, beginning, members -/
def sv_vr (bf : Int → Int) (v k b bg c d e : Int) : Prop :=
  (k ≤ 0 → bg + b ≤ 128) ∧ (1 ≤ k → c < v ∧ d < v ∧ e < v) ∧ (k = 1 → 0 ≤ c ∧ 0 ≤ d ∧ (0 ≤ e → b ≤ bf c + bf d + bf e) ∧ (e < 0 → b ≤ bf c + bf d)) ∧
  (k = 2 → 0 ≤ c ∧ 0 ≤ d ∧ b ≤ 3 * bf c ∧ b ≤ 3 * bf d ∧ (0 ≤ e → b ≤ 3 * bf e) ∧ (e < 0 → b ≤ 2 * bf c ∧ b ≤ 2 * bf d)) ∧
  (k = 3 → (0 ≤ c ∨ 0 ≤ d) ∧ (0 ≤ c → b ≤ bf c) ∧ (0 ≤ d → b ≤ bf d)) ∧ (k = 4 → (0 ≤ c → b ≤ 2 * bf c) ∧ (0 ≤ d → b ≤ 2 * bf d) ∧ (0 ≤ e → b ≤ 2 * bf e))
theorem sv_vr_congr {bf bf' : Int → Int} {v k b bg c d e : Int} (h : ∀ c, c < v → bf' c = bf c) (q : sv_vr bf v k b bg c d e) : sv_vr bf' v k b bg c d e := by
  by_cases hk : 1 ≤ k
  · obtain ⟨q1, q2, q3⟩ := q
    obtain ⟨c1, d1, e1⟩ := q2 hk
    refine ⟨q1, q2, ?_⟩
    rw [h c c1, h d d1, h e e1]
    exact q3
  · exact ⟨q.1, fun h1 => absurd h1 hk, fun h1 => absurd (by omega) hk, fun h1 => absurd (by omega) hk, fun h1 => absurd (by omega) hk, fun h1 => absurd (by omega) hk⟩
def sv_Qvol : List (Int → Int) → List Int → Prop
  | [s, b, m, g], [n] => ∀ v, 0 ≤ v → v < n → sv_vr b v (s v) (b v) (g v) (m (3 * v)) (m (1 + 3 * v)) (m (2 + 3 * v))
  | _, _ => False
theorem sv_Qvol_iff {s b m g : Int → Int} {n : Int} : sv_Qvol [s, b, m, g] [n] ↔ ∀ v, 0 ≤ v → v < n → sv_vr b v (s v) (b v) (g v) (m (3 * v)) (m (1 + 3 * v)) (m (2 + 3 * v)) := Iff.rfl
def sv_Qvok : List (Int → Int) → List Int → Prop
  | [b, m, g], [v, k, y] => sv_vr b v k y (g v) (m (3 * v)) (m (1 + 3 * v)) (m (2 + 3 * v))
  | _, _ => False
theorem sv_Qvok_iff {b m g : Int → Int} {v k y : Int} : sv_Qvok [b, m, g] [v, k, y] ↔ sv_vr b v k y (g v) (m (3 * v)) (m (1 + 3 * v)) (m (2 + 3 * v)) := Iff.rfl
/-- what waits: a volume below w, a block of it -/
def sv_Qwb : List (Int → Int) → List Int → Prop
  | [a, b, c], [n, w] => ∀ i, 0 ≤ i → i < n → a i ≤ w - 1 ∧ b i ≤ c (a i) - 1
  | _, _ => False
theorem sv_Qwb_iff {a b c : Int → Int} {n w : Int} : sv_Qwb [a, b, c] [n, w] ↔ ∀ i, 0 ≤ i → i < n → a i ≤ w - 1 ∧ b i ≤ c (a i) - 1 := Iff.rfl
def sv_pow3 (w : Int) : Int := ((3 ^ w.toNat : Nat) : Int)
theorem sv_pow3_pos (w : Int) : 1 ≤ sv_pow3 w := by
  unfold sv_pow3
  have : 0 < 3 ^ w.toNat := Nat.pow_pos (by decide)
  omega
theorem sv_pow3_succ {w : Int} (h : 0 ≤ w) : sv_pow3 (w + 1) = 3 * sv_pow3 w := by
  unfold sv_pow3
  have e : (w + 1).toNat = w.toNat + 1 := by omega
  rw [e, Nat.pow_succ]
  omega
theorem sv_pow3_mono : ∀ {v w : Int}, 0 ≤ v → v ≤ w → sv_pow3 v ≤ sv_pow3 w := by
  intro v w h1 h2
  unfold sv_pow3
  have : 3 ^ v.toNat ≤ 3 ^ w.toNat := Nat.pow_le_pow_right (by decide) (by omega)
  omega
theorem sv_pow3_lt {v w : Int} (h1 : 0 ≤ v) (h2 : v < w) : 3 * sv_pow3 v ≤ sv_pow3 w := by
  rw [← sv_pow3_succ h1]
  exact sv_pow3_mono (by omega) (by omega)
def sv_Qpw : List (Int → Int) → List Int → Prop
  | [], [w, e] => e = sv_pow3 w
  | _, _ => False
theorem sv_Qpw_iff {w e : Int} : sv_Qpw [] [w, e] ↔ e = sv_pow3 w := Iff.rfl
/-- the sum of f over 0 .. n - 1 -/
def sv_sum (f : Int → Int) : Nat → Int
  | 0 => 0
  | n + 1 => sv_sum f n + f n
theorem sv_sum_congr {f g : Int → Int} : ∀ {n : Nat}, (∀ i : Int, 0 ≤ i → i < n → f i = g i) → sv_sum f n = sv_sum g n
  | 0, _ => rfl
  | n + 1, h => by
    simp only [sv_sum]
    rw [sv_sum_congr (fun i h1 h2 => h i h1 (by omega)), h n (by omega) (by omega)]
theorem sv_sum_nonneg {f : Int → Int} (h : ∀ i, 0 ≤ f i) : ∀ n : Nat, 0 ≤ sv_sum f n
  | 0 => Int.le_refl _
  | n + 1 => by
    simp only [sv_sum]
    have := sv_sum_nonneg h n
    have := h n
    omega
theorem sv_sum_step {f : Int → Int} {n : Int} (h : 0 ≤ n) : sv_sum f (n + 1).toNat = sv_sum f n.toNat + f n := by
  have e : (n + 1).toNat = n.toNat + 1 := by omega
  rw [e, sv_sum, Int.toNat_of_nonneg h]
def sv_Qsm : List (Int → Int) → List Int → Prop
  | [a], [n, s] => sv_sum (fun i => sv_pow3 (a i)) n.toNat = s
  | _, _ => False
theorem sv_Qsm_iff {a : Int → Int} {n s : Int} : sv_Qsm [a] [n, s] ↔ sv_sum (fun i => sv_pow3 (a i)) n.toNat = s := Iff.rfl
theorem sv_sum_step2 {f : Int → Int} {n : Int} (h : 0 ≤ n) : sv_sum f (1 + n).toNat = sv_sum f n.toNat + f n := by
  rw [Int.add_comm]
  exact sv_sum_step h
