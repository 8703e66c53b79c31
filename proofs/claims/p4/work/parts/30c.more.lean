-- ===== what further opaque facts say =====
theorem sv_sum_upd {f g : Int → Int} {i : Int} (h : ∀ j, j ≠ i → g j = f j) (h0 : 0 ≤ i) : ∀ {n : Nat}, i < n → sv_sum g n = sv_sum f n + (g i - f i)
  | 0, h1 => by omega
  | n + 1, h1 => by
    simp only [sv_sum]
    by_cases e : i = n
    · rw [sv_sum_congr (f := g) (g := f) (fun j j1 j2 => h j (by omega)), e]
      omega
    · rw [sv_sum_upd h h0 (n := n) (by omega), h n (by omega)]
      omega
theorem sv_sum_upd2 {f g : Int → Int} {i x y : Int} {n : Nat} (h : ∀ j, j ≠ i → g j = f j) (h0 : 0 ≤ i) (h1 : i < n) (hx : g i = x) (hy : f i = y) : sv_sum g n = sv_sum f n + (x - y) := by rw [sv_sum_upd h h0 h1, hx, hy]
theorem sv_sum_mono {f g : Int → Int} : ∀ {n : Nat}, (∀ i : Int, 0 ≤ i → i < n → f i ≤ g i) → sv_sum f n ≤ sv_sum g n
  | 0, _ => Int.le_refl _
  | n + 1, h => by
    simp only [sv_sum]
    have h1 := sv_sum_mono (n := n) (fun i i1 i2 => h i i1 (by omega))
    have h2 := h n (by omega) (by omega)
    omega
theorem sv_sum_nn {f : Int → Int} : ∀ {n : Nat}, (∀ i : Int, 0 ≤ i → i < n → 0 ≤ f i) → 0 ≤ sv_sum f n
  | 0, _ => Int.le_refl _
  | n + 1, h => by
    simp only [sv_sum]
    have h1 := sv_sum_nn (n := n) (fun i i1 i2 => h i i1 (by omega))
    have h2 := h n (by omega) (by omega)
    omega
theorem sv_sum_ge {f : Int → Int} {j : Int} (h0 : 0 ≤ j) : ∀ {n : Nat}, (∀ i : Int, 0 ≤ i → i < n → 0 ≤ f i) → j < n → f j ≤ sv_sum f n
  | 0, _, h1 => by omega
  | n + 1, h, h1 => by
    simp only [sv_sum]
    by_cases e : j = n
    · have := sv_sum_nn (n := n) (fun i i1 i2 => h i i1 (by omega))
      rw [e]
      omega
    · have h2 := sv_sum_ge h0 (n := n) (fun i i1 i2 => h i i1 (by omega)) (by omega)
      have h3 := h n (by omega) (by omega)
      omega
theorem sv_sum_sub {f : Int → Int} : ∀ {n : Nat}, sv_sum (fun i => 1 - f i) n = n - sv_sum f n
  | 0 => rfl
  | n + 1 => by
    simp only [sv_sum]
    rw [sv_sum_sub (n := n)]
    omega
def sv_sr1 (x : Int) : Int := if x ≤ 4 then 4 - x else 0
theorem sv_sr1_nn (x : Int) : 0 ≤ sv_sr1 x := by
  unfold sv_sr1
  by_cases h : x ≤ 4
  · rw [if_pos h]
    omega
  · rw [if_neg h]
    omega
theorem sv_sr1_le {x : Int} (h : x ≤ 4) : sv_sr1 x = 4 - x := if_pos h
/-- rows that are left -/
def sv_Qsr : List (Int → Int) → List Int → Prop
  | [f], [n, s] => sv_sum (fun i => sv_sr1 (f i)) n.toNat = s
  | _, _ => False
theorem sv_Qsr_iff {f : Int → Int} {n s : Int} : sv_Qsr [f] [n, s] ↔ (sv_sum (fun i => sv_sr1 (f i)) n.toNat = s) := Iff.rfl
def sv_Qhd : List (Int → Int) → List Int → Prop
  | [f, e], [n] => ∀ k, 0 ≤ k → k < n → ∀ i, 64 * e k + 25 ≤ i → i < 64 * e k + 44 → 48 ≤ f i ∧ f i ≤ 55
  | _, _ => False
theorem sv_Qhd_iff {f e : Int → Int} {n : Int} : sv_Qhd [f, e] [n] ↔ (∀ k, 0 ≤ k → k < n → ∀ i, 64 * e k + 25 ≤ i → i < 64 * e k + 44 → 48 ≤ f i ∧ f i ≤ 55) := Iff.rfl
def sv_Qlb : List (Int → Int) → List Int → Prop
  | [f], [lo, hi, l] => ∀ i, lo ≤ i → i < hi → l ≤ f i
  | _, _ => False
theorem sv_Qlb_iff {f : Int → Int} {lo hi l : Int} : sv_Qlb [f] [lo, hi, l] ↔ (∀ i, lo ≤ i → i < hi → l ≤ f i) := Iff.rfl
def sv_Qb16 : List (Int → Int) → List Int → Prop
  | [f], [i, x] => f i % 256 + 256 * (f (i + 1) % 256) = x
  | _, _ => False
theorem sv_Qb16_iff {f : Int → Int} {i x : Int} : sv_Qb16 [f] [i, x] ↔ (f i % 256 + 256 * (f (i + 1) % 256) = x) := Iff.rfl
def sv_wd (f : Int → Int) (i : Int) : Int := f i + 256 * f (i + 1)
theorem sv_wd_congr {f f' : Int → Int} {i : Int} (h1 : f' i = f i) (h2 : f' (i + 1) = f (i + 1)) : sv_wd f' i = sv_wd f i := by
  unfold sv_wd
  rw [h1, h2]
def sv_Qpb : List (Int → Int) → List Int → Prop
  | [f], [n, k, a, s] => 1 ≤ n → n ≤ 64 → 0 ≤ k → (k ≤ 6 → a ≤ sv_wd f (176 + 32 * n + 2 * k) ∧ sv_wd f (176 + 32 * n + 2 * k) < s) ∧ (7 ≤ k → a ≤ sv_wd f (190 + 32 * n) ∧ sv_wd f (190 + 32 * n) < s ∧ (k ≤ 38 → a ≤ sv_wd f (64 * sv_wd f (190 + 32 * n) + 2 * k - 14) ∧ sv_wd f (64 * sv_wd f (190 + 32 * n) + 2 * k - 14) < s))
  | _, _ => False
theorem sv_Qpb_iff {f : Int → Int} {n k a s : Int} : sv_Qpb [f] [n, k, a, s] ↔ (1 ≤ n → n ≤ 64 → 0 ≤ k → (k ≤ 6 → a ≤ sv_wd f (176 + 32 * n + 2 * k) ∧ sv_wd f (176 + 32 * n + 2 * k) < s) ∧ (7 ≤ k → a ≤ sv_wd f (190 + 32 * n) ∧ sv_wd f (190 + 32 * n) < s ∧ (k ≤ 38 → a ≤ sv_wd f (64 * sv_wd f (190 + 32 * n) + 2 * k - 14) ∧ sv_wd f (64 * sv_wd f (190 + 32 * n) + 2 * k - 14) < s))) := Iff.rfl
def sv_Qop : List (Int → Int) → List Int → Prop
  | [f], [k, t] => t ≤ 0 ∨ ∃ j, 0 ≤ j ∧ j < k ∧ f j = 40
  | _, _ => False
theorem sv_Qop_iff {f : Int → Int} {k t : Int} : sv_Qop [f] [k, t] ↔ (t ≤ 0 ∨ ∃ j, 0 ≤ j ∧ j < k ∧ f j = 40) := Iff.rfl
def sv_bn1 (x : Int) : Int := if x = 38 ∨ x = 124 then 1 else 0
theorem sv_bn1_nn (x : Int) : 0 ≤ sv_bn1 x := by
  unfold sv_bn1
  by_cases h : x = 38 ∨ x = 124
  · rw [if_pos h]
    omega
  · rw [if_neg h]
    omega
def sv_Qbn : List (Int → Int) → List Int → Prop
  | [f], [k, b] => sv_sum (fun i => sv_bn1 (f i)) k.toNat = b
  | _, _ => False
theorem sv_Qbn_iff {f : Int → Int} {k b : Int} : sv_Qbn [f] [k, b] ↔ (sv_sum (fun i => sv_bn1 (f i)) k.toNat = b) := Iff.rfl
def sv_dp1 (d x : Int) : Option Int := if 1 ≤ x then (if d ≤ 2046 then some (d + 1) else none) else if x = -33 then (if 1 ≤ d then some d else none) else (if 2 ≤ d then some (d - 1) else none)
def sv_dp (f : Int → Int) : Nat → Option Int
  | 0 => some 0
  | n + 1 => match sv_dp f n with
    | some d => sv_dp1 d (f n)
    | none => none
theorem sv_dp_congr {f g : Int → Int} : ∀ {n : Nat}, (∀ i : Int, 0 ≤ i → i < n → f i = g i) → sv_dp f n = sv_dp g n
  | 0, _ => rfl
  | n + 1, h => by
    simp only [sv_dp]
    rw [sv_dp_congr (n := n) (fun i i1 i2 => h i i1 (by omega)), h n (by omega) (by omega)]
theorem sv_dp_some {f : Int → Int} : ∀ {k n : Nat} {d : Int}, sv_dp f k = some d → n ≤ k → ∃ e, sv_dp f n = some e
  | 0, n, d, h, hn => by
    obtain rfl : n = 0 := by omega
    exact ⟨d, h⟩
  | k + 1, n, d, h, hn => by
    by_cases e : n = k + 1
    · exact ⟨d, by rw [e]; exact h⟩
    · cases hk : sv_dp f k with
      | none => simp only [sv_dp, hk] at h; cases h
      | some c => exact sv_dp_some hk (by omega)
theorem sv_dp_step {f : Int → Int} {n d : Int} (h0 : 0 ≤ n) (h : sv_dp f n.toNat = some d) : sv_dp f (1 + n).toNat = sv_dp1 d (f n) := by
  have e : (1 + n).toNat = n.toNat + 1 := by omega
  rw [e]
  simp only [sv_dp, h]
  rw [Int.toNat_of_nonneg h0]
theorem sv_dp_run {f : Int → Int} {k n d e : Int} (h0 : 0 ≤ n) (hn : n < k) (h : sv_dp f k.toNat = some d) (h1 : sv_dp f n.toNat = some e) : ∃ c, sv_dp1 e (f n) = some c ∧ sv_dp f (1 + n).toNat = some c := by
  obtain ⟨c, hc⟩ := sv_dp_some h (n := (1 + n).toNat) (by omega)
  exact ⟨c, by rw [← sv_dp_step h0 h1]; exact hc, hc⟩
theorem sv_dp1_a {d x c : Int} (hx : 1 ≤ x) (h : sv_dp1 d x = some c) : d ≤ 2046 ∧ c = d + 1 := by
  unfold sv_dp1 at h
  rw [if_pos hx] at h
  by_cases e : d ≤ 2046
  · rw [if_pos e, Option.some.injEq] at h
    exact ⟨e, h.symm⟩
  · rw [if_neg e] at h
    cases h
theorem sv_dp1_b {d x c : Int} (hx : x = -33) (h : sv_dp1 d x = some c) : 1 ≤ d ∧ c = d := by
  unfold sv_dp1 at h
  rw [if_neg (by omega), if_pos hx] at h
  by_cases e : 1 ≤ d
  · rw [if_pos e, Option.some.injEq] at h
    exact ⟨e, h.symm⟩
  · rw [if_neg e] at h
    cases h
theorem sv_dp1_c {d x c : Int} (hx : x ≤ 0) (hy : x ≠ -33) (h : sv_dp1 d x = some c) : 2 ≤ d ∧ c = d - 1 := by
  unfold sv_dp1 at h
  rw [if_neg (by omega), if_neg hy] at h
  by_cases e : 2 ≤ d
  · rw [if_pos e, Option.some.injEq] at h
    exact ⟨e, h.symm⟩
  · rw [if_neg e] at h
    cases h
def sv_Qdp : List (Int → Int) → List Int → Prop
  | [f], [k, d] => sv_dp f k.toNat = some d
  | _, _ => False
theorem sv_Qdp_iff {f : Int → Int} {k d : Int} : sv_Qdp [f] [k, d] ↔ (sv_dp f k.toNat = some d) := Iff.rfl
def sv_Qak : List (Int → Int) → List Int → Prop
  | [f, h], [n] => ∀ i, 0 ≤ i → i < n → f i = 10 → h i ≤ 4000
  | _, _ => False
theorem sv_Qak_iff {f h : Int → Int} {n : Int} : sv_Qak [f, h] [n] ↔ (∀ i, 0 ≤ i → i < n → f i = 10 → h i ≤ 4000) := Iff.rfl
def sv_Qcl : List (Int → Int) → List Int → Prop
  | [f, h], [n] => ∀ i, 0 ≤ i → i < n → 1 ≤ f i ∧ f i ≤ 3 ∧ (f i = 2 → 0 ≤ h i) ∧ (f i = 3 → 0 ≤ h i ∧ h i ≤ 149)
  | _, _ => False
theorem sv_Qcl_iff {f h : Int → Int} {n : Int} : sv_Qcl [f, h] [n] ↔ (∀ i, 0 ≤ i → i < n → 1 ≤ f i ∧ f i ≤ 3 ∧ (f i = 2 → 0 ≤ h i) ∧ (f i = 3 → 0 ≤ h i ∧ h i ≤ 149)) := Iff.rfl
def sv_wk1 (x : Int) : Int := if x = 1 then 65 else if x = 2 then 2 else 1
theorem sv_wk1_pos (x : Int) : 1 ≤ sv_wk1 x := by
  unfold sv_wk1
  by_cases h : x = 1
  · rw [if_pos h]
    omega
  · rw [if_neg h]
    by_cases h2 : x = 2
    · rw [if_pos h2]
      omega
    · rw [if_neg h2]
      omega
def sv_wk (f : Int → Int) : Nat → Int
  | 0 => 4
  | n + 1 => sv_wk f n + sv_wk1 (f (sv_wk f n))
theorem sv_wk_mono {f : Int → Int} : ∀ {n m : Nat}, n ≤ m → sv_wk f n ≤ sv_wk f m
  | n, 0, h => by
    obtain rfl : n = 0 := by omega
    exact Int.le_refl _
  | n, m + 1, h => by
    by_cases e : n = m + 1
    · rw [e]
      exact Int.le_refl _
    · have := sv_wk_mono (f := f) (n := n) (m := m) (by omega)
      have := sv_wk1_pos (f (sv_wk f m))
      simp only [sv_wk]
      omega
theorem sv_wk_step {f : Int → Int} {s p : Int} (h0 : 0 ≤ s) (h : sv_wk f s.toNat = p) : sv_wk f (1 + s).toNat = p + sv_wk1 (f p) := by
  have e : (1 + s).toNat = s.toNat + 1 := by omega
  rw [e]
  simp only [sv_wk, h]
def sv_Qwk : List (Int → Int) → List Int → Prop
  | [f], [s, p] => sv_wk f s.toNat = p
  | _, _ => False
theorem sv_Qwk_iff {f : Int → Int} {s p : Int} : sv_Qwk [f] [s, p] ↔ (sv_wk f s.toNat = p) := Iff.rfl
def sv_cg1 (x : Int) : Int := if 16 ≤ x then 1 else 0
theorem sv_cg1_b (x : Int) : 0 ≤ sv_cg1 x ∧ sv_cg1 x ≤ 1 := by
  unfold sv_cg1
  by_cases h : 16 ≤ x
  · rw [if_pos h]
    omega
  · rw [if_neg h]
    omega
theorem sv_cg_le {f : Int → Int} : ∀ {n : Nat}, sv_sum (fun i => sv_cg1 (f i)) n ≤ n
  | 0 => Int.le_refl _
  | n + 1 => by
    simp only [sv_sum]
    have := sv_cg_le (f := f) (n := n)
    have := (sv_cg1_b (f n)).2
    omega
theorem sv_cg_lt {f : Int → Int} {j : Int} {n : Nat} (h0 : 0 ≤ j) (h1 : j < n) (h2 : f j ≤ 15) : sv_sum (fun i => sv_cg1 (f i)) n + 1 ≤ n := by
  have q := sv_sum_ge (f := fun i => 1 - sv_cg1 (f i)) h0 (n := n) (fun i _ _ => by have := sv_cg1_b (f i); omega) h1
  rw [sv_sum_sub (f := fun i => sv_cg1 (f i))] at q
  have e : sv_cg1 (f j) = 0 := if_neg (by omega)
  simp only [e] at q
  omega
def sv_Qcg : List (Int → Int) → List Int → Prop
  | [f], [b, e, c] => c ≤ sv_sum (fun i => sv_cg1 (f (b + i))) (e - b).toNat ∨ c ≤ 0
  | _, _ => False
theorem sv_Qcg_iff {f : Int → Int} {b e c : Int} : sv_Qcg [f] [b, e, c] ↔ (c ≤ sv_sum (fun i => sv_cg1 (f (b + i))) (e - b).toNat ∨ c ≤ 0) := Iff.rfl
def sv_Qfc : List (Int → Int) → List Int → Prop
  | [f, m], [b, n] => ∀ i, b ≤ i → i < b + n → ∀ j, 256 * i ≤ j → j < 256 * i + m i → j < 256 * i + 256 → 0 ≤ f j
  | _, _ => False
theorem sv_Qfc_iff {f m : Int → Int} {b n : Int} : sv_Qfc [f, m] [b, n] ↔ (∀ i, b ≤ i → i < b + n → ∀ j, 256 * i ≤ j → j < 256 * i + m i → j < 256 * i + 256 → 0 ≤ f j) := Iff.rfl
def sv_cap (f m : Int → Int) (b r i : Int) : Int := if f i < 0 then r else 2 * m (b + f i)
def sv_Qcp : List (Int → Int) → List Int → Prop
  | [f, w, m], [b, n, r, s] => (∀ i, 0 ≤ i → i < n → w i ≤ sv_cap f m b r i) ∧ sv_sum (fun i => sv_cap f m b r i - w i) n.toNat ≤ s
  | _, _ => False
theorem sv_Qcp_iff {f w m : Int → Int} {b n r s : Int} : sv_Qcp [f, w, m] [b, n, r, s] ↔ ((∀ i, 0 ≤ i → i < n → w i ≤ sv_cap f m b r i) ∧ sv_sum (fun i => sv_cap f m b r i - w i) n.toNat ≤ s) := Iff.rfl
def sv_Qmt : List (Int → Int) → List Int → Prop
  | [w, f, b], [p, i, k] => ∀ j, 0 ≤ j → j < k → w (f i + j) = b (p + j)
  | _, _ => False
theorem sv_Qmt_iff {w f b : Int → Int} {p i k : Int} : sv_Qmt [w, f, b] [p, i, k] ↔ (∀ j, 0 ≤ j → j < k → w (f i + j) = b (p + j)) := Iff.rfl
def sv_Qgd : List (Int → Int) → List Int → Prop
  | [w, f, b], [p, n] => ∀ i, 0 ≤ i → i ≤ 10 → ∀ k, 0 ≤ k → k < n → (∀ j, 0 ≤ j → j < k → w (f i + j) = b (p + j)) → f i + k ≤ 65
  | _, _ => False
theorem sv_Qgd_iff {w f b : Int → Int} {p n : Int} : sv_Qgd [w, f, b] [p, n] ↔ (∀ i, 0 ≤ i → i ≤ 10 → ∀ k, 0 ≤ k → k < n → (∀ j, 0 ≤ j → j < k → w (f i + j) = b (p + j)) → f i + k ≤ 65) := Iff.rfl
def sv_Qcn : List (Int → Int) → List Int → Prop
  | [f], [i, k] => k < f i
  | _, _ => False
theorem sv_Qcn_iff {f : Int → Int} {i k : Int} : sv_Qcn [f] [i, k] ↔ (k < f i) := Iff.rfl
/-- FILES within FILES: where their bytes are -/
def sv_Qsrc : List (Int → Int) → List Int → Prop
  | [so, sf, en, lv, lo, cu, ns], [n] => ∀ t g, 0 ≤ t → t < n → 0 ≤ g → g ≤ 149 → g < lv t + lo t + cu t + ns t → so (150 * t + g) = -1 ∨ (0 ≤ so (150 * t + g) ∧ so (150 * t + g) < g ∧ 0 ≤ sf (150 * t + g) ∧ sf (150 * t + g) + en (150 * t + g) ≤ 16384 ∧ sf (150 * t + g) + en (150 * t + g) ≤ en (150 * t + so (150 * t + g)))
  | _, _ => False
theorem sv_Qsrc_iff {so sf en lv lo cu ns : Int → Int} {n : Int} : sv_Qsrc [so, sf, en, lv, lo, cu, ns] [n] ↔ (∀ t g, 0 ≤ t → t < n → 0 ≤ g → g ≤ 149 → g < lv t + lo t + cu t + ns t → so (150 * t + g) = -1 ∨ (0 ≤ so (150 * t + g) ∧ so (150 * t + g) < g ∧ 0 ≤ sf (150 * t + g) ∧ sf (150 * t + g) + en (150 * t + g) ≤ 16384 ∧ sf (150 * t + g) + en (150 * t + g) ≤ en (150 * t + so (150 * t + g)))) := Iff.rfl
def sv_Qsn : List (Int → Int) → List Int → Prop
  | [so, lv, lo, cu, ns], [t] => ∀ g, 0 ≤ g → g < lv t + lo t + cu t + ns t → so (150 * t + g) = -1
  | _, _ => False
theorem sv_Qsn_iff {so lv lo cu ns : Int → Int} {t : Int} : sv_Qsn [so, lv, lo, cu, ns] [t] ↔ (∀ g, 0 ≤ g → g < lv t + lo t + cu t + ns t → so (150 * t + g) = -1) := Iff.rfl
def sv_Qos : List (Int → Int) → List Int → Prop
  | [ot, f, oz, en, lv, lo, cu, ns], [n, r] => ∀ o, 0 ≤ o → o < n → 0 ≤ ot o ∧ ot o < r ∧ 0 ≤ f o ∧ f o ≤ 149 ∧ f o < lv (ot o) + lo (ot o) + cu (ot o) + ns (ot o) ∧ oz o ≤ en (150 * ot o + f o)
  | _, _ => False
theorem sv_Qos_iff {ot f oz en lv lo cu ns : Int → Int} {n r : Int} : sv_Qos [ot, f, oz, en, lv, lo, cu, ns] [n, r] ↔ (∀ o, 0 ≤ o → o < n → 0 ≤ ot o ∧ ot o < r ∧ 0 ≤ f o ∧ f o ≤ 149 ∧ f o < lv (ot o) + lo (ot o) + cu (ot o) + ns (ot o) ∧ oz o ≤ en (150 * ot o + f o)) := Iff.rfl
def sv_Qpt : List (Int → Int) → List Int → Prop
  | [k, f, e, p, z, m], [n] => ∀ o i, 0 ≤ o → o < n → 0 ≤ i → i < m o → i ≤ 119 → k (120 * o + i) = 22 → 1 ≤ i ∧ 0 ≤ p (120 * o + i) ∧ 0 ≤ f (120 * o + i) ∧ f (120 * o + i) ≤ e (120 * o + i) ∧ e (120 * o + i) ≤ z o ∧ 0 ≤ f (120 * o + (i - 1)) ∧ e (120 * o + (i - 1)) ≤ z o ∧ e (120 * o + (i - 1)) ≤ f (120 * o + (i - 1)) + 32
  | _, _ => False
theorem sv_Qpt_iff {k f e p z m : Int → Int} {n : Int} : sv_Qpt [k, f, e, p, z, m] [n] ↔ (∀ o i, 0 ≤ o → o < n → 0 ≤ i → i < m o → i ≤ 119 → k (120 * o + i) = 22 → 1 ≤ i ∧ 0 ≤ p (120 * o + i) ∧ 0 ≤ f (120 * o + i) ∧ f (120 * o + i) ≤ e (120 * o + i) ∧ e (120 * o + i) ≤ z o ∧ 0 ≤ f (120 * o + (i - 1)) ∧ e (120 * o + (i - 1)) ≤ z o ∧ e (120 * o + (i - 1)) ≤ f (120 * o + (i - 1)) + 32) := Iff.rfl
def sv_Qpn : List (Int → Int) → List Int → Prop
  | [x, y], [a, z, e, p, k, f, t] => k = 22 → a < e → 0 ≤ p ∧ e ≤ a + 119 ∧ 0 ≤ x (a - 1) ∧ y (a - 1) ≤ z ∧ y (a - 1) ≤ x (a - 1) + 32 ∧ 0 ≤ f ∧ f ≤ t ∧ t ≤ z
  | _, _ => False
theorem sv_Qpn_iff {x y : Int → Int} {a z e p k f t : Int} : sv_Qpn [x, y] [a, z, e, p, k, f, t] ↔ (k = 22 → a < e → 0 ≤ p ∧ e ≤ a + 119 ∧ 0 ≤ x (a - 1) ∧ y (a - 1) ≤ z ∧ y (a - 1) ≤ x (a - 1) + 32 ∧ 0 ≤ f ∧ f ≤ t ∧ t ≤ z) := Iff.rfl
theorem sv_wd_at {f : Int → Int} {u v x : Int} (h : u = v) (q : f v + 256 * f (v + 1) = x) : sv_wd f u = x := by
  rw [h]
  exact q
theorem sv_fat {f : Int → Int} {u v x : Int} (h : u = v) (q : f v = x) : f u = x := by rw [h, q]
theorem sv_lt_at {f : Int → Int} {u v k : Int} (h : u = v) (q : k < f v) : k < f u := by
  rw [h]
  exact q
def sv_hn (f : Int → Int) : Nat → Int
  | 0 => 0
  | n + 1 => 256 * sv_hn f n + f n
def sv_Qhn : List (Int → Int) → List Int → Prop
  | [f], [n, c] => sv_hn f n.toNat = c ∧ ∀ j, 0 ≤ j → j < n → 0 ≤ f j ∧ f j ≤ 255
  | _, _ => False
theorem sv_Qhn_iff {f : Int → Int} {n c : Int} : sv_Qhn [f] [n, c] ↔ (sv_hn f n.toNat = c ∧ ∀ j, 0 ≤ j → j < n → 0 ≤ f j ∧ f j ≤ 255) := Iff.rfl
theorem sv_hn_congr {f g : Int → Int} : ∀ {n : Nat}, (∀ i : Int, 0 ≤ i → i < n → f i = g i) → sv_hn f n = sv_hn g n
  | 0, _ => rfl
  | n + 1, h => by
    simp only [sv_hn]
    rw [sv_hn_congr (n := n) (fun i i1 i2 => h i i1 (by omega)), h n (by omega) (by omega)]
/-- words of fields: what two of them share goes on in both -/
def sv_Qfw : List (Int → Int) → List Int → Prop
  | [w, f], [] => (∀ i, 0 ≤ i → i ≤ 10 → f i ≤ 64) ∧ ∀ i k n, 0 ≤ i → i ≤ 10 → 0 ≤ k → k ≤ 10 → 1 ≤ n → f i + n ≤ 65 → (∀ j, 0 ≤ j → j < n → w (f i + j) = w (f k + j)) → w (f i + n) ≠ 32 → f k + n + 1 ≤ 65
  | _, _ => False
theorem sv_Qfw_iff {w f : Int → Int} : sv_Qfw [w, f] [] ↔ ((∀ i, 0 ≤ i → i ≤ 10 → f i ≤ 64) ∧ ∀ i k n, 0 ≤ i → i ≤ 10 → 0 ≤ k → k ≤ 10 → 1 ≤ n → f i + n ≤ 65 → (∀ j, 0 ≤ j → j < n → w (f i + j) = w (f k + j)) → w (f i + n) ≠ 32 → f k + n + 1 ≤ 65) := Iff.rfl
