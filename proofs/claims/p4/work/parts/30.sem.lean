-- ===== laws that bring numbers along; what opaque facts say =====
/-- a law that brings numbers: bounds, what it asks, bounds of what it brings, what it gives -/
abbrev SvE : Type := List SvB × List SvF × List SvB × List SvF
def sv_LeOk (P : Nat → List Nat → List Int → (Nat → Nat) → Heap → Prop) (D : va_G) (AC : Nat → ClassId) (kd : List SvK) (B0 : Nat) (E : List SvE) : Prop :=
  ∀ m ∈ E, ∀ (κ : Nat → Nat) (H : Heap) (ρ : List Int), sv_TI D AC kd B0 κ H → sv_BOk ρ m.1 → (∀ f ∈ m.2.1, sv_FOk P D kd κ H ρ f) → ∃ τ, sv_BOk τ m.2.2.1 ∧ ∀ f ∈ m.2.2.2, sv_FOk P D kd κ H (ρ ++ τ) f
/-- as sv_rl; 3 a law that brings numbers: which, its numbers, certificates -/
def sv_rx (E : List SvE) (L : List SvM) (kd : List SvK) (k : Nat) (S : SvS) (w : List Nat) : Option (SvS × List Nat) := match k with
  | 3 => (match w with
    | j :: w1 => (match sv_nth E j with
      | some m => (match sv_rlins (sv_len m.1) w1 with
        | some (σ, w2) => bif sv_wfs (sv_len S.1) σ then (match sv_matchF S (m.1, [], [], m.2.1) σ w2 with
          | some w3 => (match sv_gain (sv_appl σ (sv_vsF (sv_len S.1) (sv_len m.2.2.1))) m.2.2.2 (S.1 ++ m.2.2.1, S.2.1, S.2.2.1, S.2.2.2) with
            | some S' => some (S', w3)
            | none => none)
          | none => none) else none
        | none => none)
      | none => none)
    | [] => none)
  | _ => sv_rl L kd k S w
section SVRX
variable {P : Nat → List Nat → List Int → (Nat → Nat) → Heap → Prop} {D : va_G} {AC : Nat → ClassId} {kd : List SvK} {B0 : Nat}
theorem sv_BOk_apps {ρ τ : List Int} {a b : List SvB} (h1 : sv_BOk ρ a) (h2 : sv_BOk τ b) : sv_BOk (ρ ++ τ) (a ++ b) := by
  refine ⟨by simp [h1.1, h2.1], fun i x q hx hq => ?_⟩
  rw [sv_nth_eq] at hx hq
  by_cases hi : i < a.length
  · rw [List.getElem?_append_left (by rw [h1.1]; exact hi)] at hx
    rw [List.getElem?_append_left hi] at hq
    exact h1.2 i x q (by rw [sv_nth_eq]; exact hx) (by rw [sv_nth_eq]; exact hq)
  · rw [List.getElem?_append_right (by rw [h1.1]; omega)] at hx
    rw [List.getElem?_append_right (by omega)] at hq
    rw [h1.1] at hx
    exact h2.2 _ x q (by rw [sv_nth_eq]; exact hx) (by rw [sv_nth_eq]; exact hq)
theorem sv_evs_app2 {ρ : List Int} : ∀ {a b : List SvL} {x y : List Int}, sv_evs ρ a = some x → sv_evs ρ b = some y → sv_evs ρ (a ++ b) = some (x ++ y)
  | [], b, x, y, h1, h2 => by
    simp only [sv_evs, Option.some.injEq] at h1
    subst h1
    exact h2
  | e :: a, b, x, y, h1, h2 => by
    obtain ⟨z, zs, e1, e2, rfl⟩ := sv_evs_cons.mp h1
    exact sv_evs_cons.mpr ⟨z, _, e1, sv_evs_app2 e2 h2, rfl⟩
theorem sv_evs_appr {ρ τ : List Int} : ∀ {a : List SvL} {x : List Int}, sv_evs ρ a = some x → sv_evs (ρ ++ τ) a = some x
  | [], x, h => h
  | e :: a, x, h => by
    obtain ⟨z, zs, e1, e2, rfl⟩ := sv_evs_cons.mp h
    exact sv_evs_cons.mpr ⟨z, zs, sv_ev_app e1, sv_evs_appr e2, rfl⟩
theorem sv_evs_vsR : ∀ {τ ρ : List Int}, sv_evs (ρ ++ τ) (sv_vsF ρ.length τ.length) = some τ
  | [], ρ => rfl
  | x :: τ, ρ => by
    have h := @sv_evs_vsR τ (ρ ++ [x])
    rw [List.append_assoc, List.length_append, List.length_singleton, List.singleton_append] at h
    refine sv_evs_cons.mpr ⟨x, τ, sv_ev_v ?_, h, rfl⟩
    rw [sv_nth_eq, List.getElem?_append_right (Nat.le_refl _), Nat.sub_self]
    rfl
theorem sv_Sat_app {κ : Nat → Nat} {H : Heap} {ρ τ : List Int} {nL : Nat} {ls : Array Slot} {st : List Value} {S : SvS} {b : List SvB} (h : sv_Sat P D kd κ H ρ nL ls st S) (hb : sv_BOk τ b) : sv_Sat P D kd κ H (ρ ++ τ) nL ls st (S.1 ++ b, S.2.1, S.2.2.1, S.2.2.2) := by
  obtain ⟨h1, ⟨lv, h2, h3⟩, h4, h5⟩ := h
  exact ⟨sv_BOk_apps h1 hb, ⟨lv, h2, sv_LoOk_app h3⟩, sv_StOk_app h4, fun f hf => sv_FOk_app (h5 f hf)⟩
theorem sv_rx_ok {E : List SvE} {L : List SvM} (hE : sv_LeOk P D AC kd B0 E) (hL : sv_LmOk P D AC kd B0 L) : sv_Rl P D AC kd B0 (sv_rx E L kd) := by
  intro k S S' w w' h κ H ρ nL ls st hT hS
  unfold sv_rx at h
  split at h
  · split at h
    · rename_i j w1
      split at h
      · rename_i m hm
        split at h
        · rename_i σ w2 hσ
          cases hw : sv_wfs (sv_len S.1) σ with
          | false => simp only [hw, cond_false] at h; cases h
          | true =>
            simp only [hw, cond_true] at h
            rw [sv_len_eq] at hw
            split at h
            · rename_i w3 hmf
              split at h
              · rename_i S1 hg
                simp only [Option.some.injEq, Prod.mk.injEq] at h
                obtain ⟨rfl, -⟩ := h
                obtain ⟨τ, t1, t2, t3⟩ := sv_matchF_ok hS hw hmf
                obtain ⟨υ, u1, u2⟩ := hE m (List.mem_of_getElem? (by rw [← sv_nth_eq]; exact hm)) κ H τ hT t2 t3
                refine ⟨υ, ?_⟩
                rw [sv_appl_eq, sv_len_eq, sv_len_eq, ← hS.1.1, ← u1.1] at hg
                exact sv_gain_ok (sv_evs_app2 (sv_evs_appr t1) sv_evs_vsR) hg u2 (sv_Sat_app hS u1)
              · cases h
            · cases h
        · cases h
      · cases h
    · cases h
  · exact sv_rl_ok hL _ _ _ _ _ h κ H ρ nL ls st hT hS
end SVRX
theorem sv_put_eq {g : Int → Int → Int} {a i x : Int} : sv_put g a i x a = fun k => if k = i then x else g a k := by
  funext k
  unfold sv_put
  by_cases h : k = i
  · rw [if_pos ⟨rfl, h⟩, if_pos h]
  · rw [if_neg (fun h2 => h h2.2), if_neg h]
theorem sv_put_ne {g : Int → Int → Int} {a i x b : Int} (h : b ≠ a) : sv_put g a i x b = g b := by
  funext k
  unfold sv_put
  rw [if_neg (fun h2 => h h2.1)]
theorem sv_kf_ne {kf : Int → Nat} {a b : Int} {m n : Nat} (h1 : kf a = m) (h2 : kf b = n) (h : m ≠ n) : a ≠ b := fun e => h (by rw [← h1, ← h2, e])
theorem sv_gt_ite {c : Prop} [Decidable c] {x y : Int} : (if c then x else y) = if c then x else y := rfl
/-- c * f i + d * i lies between l and u -/
def sv_Qlin (c d : Int) : List (Int → Int) → List Int → Prop
  | [f], [lo, hi, l, u] => ∀ i, lo ≤ i → i < hi → l ≤ c * f i + d * i ∧ c * f i + d * i ≤ u
  | _, _ => False
theorem sv_Qlin_iff {c d lo hi l u : Int} {f : Int → Int} : sv_Qlin c d [f] [lo, hi, l, u] ↔ ∀ i, lo ≤ i → i < hi → l ≤ c * f i + d * i ∧ c * f i + d * i ≤ u := Iff.rfl
/-- c * f i + d * g i lies between l and u -/
def sv_Qlin2 (c d : Int) : List (Int → Int) → List Int → Prop
  | [f, g], [lo, hi, l, u] => ∀ i, lo ≤ i → i < hi → l ≤ c * f i + d * g i ∧ c * f i + d * g i ≤ u
  | _, _ => False
theorem sv_Qlin2_iff {c d lo hi l u : Int} {f g : Int → Int} : sv_Qlin2 c d [f, g] [lo, hi, l, u] ↔ ∀ i, lo ≤ i → i < hi → l ≤ c * f i + d * g i ∧ c * f i + d * g i ≤ u := Iff.rfl
/-- no number stands twice -/
def sv_Qds : List (Int → Int) → List Int → Prop
  | [f], [n] => ∀ i j, 0 ≤ i → i < j → j < n → f i ≠ f j
  | _, _ => False
theorem sv_Qds_iff {n : Int} {f : Int → Int} : sv_Qds [f] [n] ↔ ∀ i j, 0 ≤ i → i < j → j < n → f i ≠ f j := Iff.rfl
def sv_Qni : List (Int → Int) → List Int → Prop
  | [f], [n, c] => ∀ i, 0 ≤ i → i < n → f i ≠ c
  | _, _ => False
theorem sv_Qni_iff {n c : Int} {f : Int → Int} : sv_Qni [f] [n, c] ↔ ∀ i, 0 ≤ i → i < n → f i ≠ c := Iff.rfl
theorem sv_pigeon {l : Int} : ∀ (k : Nat) (n : Int) (f : Int → Int), (∀ i, 0 ≤ i → i < n → l ≤ f i ∧ f i < l + k) → (∀ i j, 0 ≤ i → i < j → j < n → f i ≠ f j) → n ≤ k
  | 0, n, f, h1, _ => by
    by_cases h : n ≤ ((0 : Nat) : Int)
    · exact h
    · have := h1 0 (by omega) (by omega)
      omega
  | k + 1, n, f, h1, h2 => by
    by_cases h : ∃ p, 0 ≤ p ∧ p < n ∧ f p = l + k
    · obtain ⟨p, p1, p2, p3⟩ := h
      have key := sv_pigeon (l := l) k (n - 1) (fun i => if i = p then f (n - 1) else f i) (fun i i1 i2 => by
        have hn := h1 (n - 1) (by omega) (by omega)
        have hi := h1 i i1 (by omega)
        show l ≤ (if i = p then f (n - 1) else f i) ∧ (if i = p then f (n - 1) else f i) < l + k
        by_cases e : i = p
        · rw [if_pos e]
          have := h2 p (n - 1) p1 (by omega) (by omega)
          omega
        · rw [if_neg e]
          have : f i ≠ f p := by
            by_cases e2 : i < p
            · exact h2 i p i1 e2 p2
            · exact fun e3 => h2 p i p1 (by omega) (by omega) e3.symm
          omega) (fun i j i1 i2 i3 => by
        show (if i = p then f (n - 1) else f i) ≠ (if j = p then f (n - 1) else f j)
        by_cases e : i = p
        · rw [if_pos e, if_neg (by omega)]
          exact fun e3 => h2 j (n - 1) (by omega) (by omega) (by omega) e3.symm
        · rw [if_neg e]
          by_cases e2 : j = p
          · rw [if_pos e2]
            exact h2 i (n - 1) i1 (by omega) (by omega)
          · rw [if_neg e2]
            exact h2 i j i1 i2 (by omega))
      omega
    · have key := sv_pigeon (l := l) k n f (fun i i1 i2 => by
        have hi := h1 i i1 i2
        have : f i ≠ l + k := fun e => h ⟨i, i1, i2, e⟩
        omega) h2
      omega
/-- two bytes as a number -/
def sv_Qw16 : List (Int → Int) → List Int → Prop
  | [f], [i, x] => 0 ≤ i → i ≤ 16382 → f i + 256 * f (i + 1) = x
  | _, _ => False
theorem sv_Qw16_iff {i x : Int} {f : Int → Int} : sv_Qw16 [f] [i, x] ↔ (0 ≤ i → i ≤ 16382 → f i + 256 * f (i + 1) = x) := Iff.rfl
