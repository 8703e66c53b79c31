def sv_lo (t : Nat) : Int := bif Nat.beq t 1 then -2147483648 else -9223372036854775808
def sv_hi (t : Nat) : Int := bif Nat.beq t 1 then 2147483647 else 9223372036854775807
def sv_in (b : List SvB) (e : SvL) (lo hi : Int) : Bool := match sv_lb b e with
  | some x => match sv_ub b e with
    | some y => sv_le lo x && sv_le y hi
    | none => false
  | none => false
def sv_two (b : List SvB) (fs : List SvF) (e : SvL) (lo hi : Int) (w : List Nat) : Option (List Nat) := match sv_rcert w with
  | some (c1, w1) => match sv_rcert w1 with
    | some (c2, w2) => bif sv_prove b fs c1 (sv_addc e (Int.neg lo)) && sv_prove b fs c2 (sv_addc (sv_sc (-1) e) hi) then some w2 else none
    | none => none
  | none => none
def sv_fresh (S : SvS) (t : Nat) (rest : List SvA) (lo hi : Int) : SvS := (S.1 ++ [(lo, some hi)], S.2.1, (t, sv_v S.1.length) :: rest, S.2.2.2)
/-- what a count gives: the form itself where it stays in range, else any number -/
def sv_res (t : Nat) (S : SvS) (rest : List SvA) (e : SvL) : List Nat → Option (SvS × List Nat)
  | 0 :: w => bif sv_in S.1 e (sv_lo t) (sv_hi t) then some ((S.1, S.2.1, (t, e) :: rest, S.2.2.2), w) else none
  | 1 :: w => match sv_two S.1 S.2.2.2 e (sv_lo t) (sv_hi t) w with
    | some w' => some ((S.1, S.2.1, (t, e) :: rest, S.2.2.2), w')
    | none => none
  | 2 :: w => some (sv_fresh S t rest (sv_lo t) (sv_hi t), w)
  | _ => none
theorem sv_BOk_add {ρ : List Int} {b : List SvB} (hb : sv_BOk ρ b) {lo x : Int} {hi : Option Int} (h1 : lo ≤ x) (h2 : ∀ h, hi = some h → x ≤ h) : sv_BOk (ρ ++ [x]) (b ++ [(lo, hi)]) := by
  obtain ⟨hl, hb⟩ := hb
  refine ⟨by simp [hl], fun i y q hy hq => ?_⟩
  rw [sv_nth_eq] at hy hq
  by_cases hi : i < ρ.length
  · rw [List.getElem?_append_left hi] at hy
    rw [List.getElem?_append_left (by omega)] at hq
    exact hb i y q (by rw [sv_nth_eq]; exact hy) (by rw [sv_nth_eq]; exact hq)
  · rw [List.getElem?_append_right (by omega)] at hy
    rw [List.getElem?_append_right (by omega)] at hq
    have h3 : i - ρ.length < 1 := (List.getElem?_eq_some_iff.mp hy).1
    have h4 : i - ρ.length = 0 := by omega
    have h5 : i - b.length = 0 := by omega
    rw [h4] at hy
    rw [h5] at hq
    simp at hy hq
    subst hy
    subst hq
    exact ⟨h1, h2⟩
theorem sv_nth_last {ρ : List Int} {b : List SvB} (hb : sv_BOk ρ b) (x : Int) : sv_nth (ρ ++ [x]) b.length = some x := by
  rw [sv_nth_eq, ← hb.1]
  simp
theorem sv_VOk_app {ρ τ : List Int} {a : SvA} {v : Value} (h : sv_VOk ρ a v) : sv_VOk (ρ ++ τ) a v := ⟨h.1, h.2.1, sv_ev_app h.2.2⟩
theorem sv_StOk_app {ρ τ : List Int} : ∀ {as : List SvA} {vs : List Value}, sv_StOk ρ as vs → sv_StOk (ρ ++ τ) as vs
  | [], [], _ => trivial
  | [], _ :: _, h => h.elim
  | _ :: _, [], h => h.elim
  | _ :: _, _ :: _, h => ⟨sv_VOk_app h.1, sv_StOk_app h.2⟩
theorem sv_LoOk_app {ρ τ : List Int} : ∀ {as : List (Nat × SvA)} {vs : List (Nat × Value)}, sv_LoOk ρ as vs → sv_LoOk (ρ ++ τ) as vs
  | [], [], _ => trivial
  | [], _ :: _, h => h.elim
  | _ :: _, [], h => h.elim
  | _ :: _, _ :: _, h => ⟨h.1, sv_VOk_app h.2.1, sv_LoOk_app h.2.2⟩
theorem sv_StOk_cons {ρ : List Int} {a : SvA} {as : List SvA} {vs : List Value} (h : sv_StOk ρ (a :: as) vs) : ∃ v vs', vs = v :: vs' ∧ sv_VOk ρ a v ∧ sv_StOk ρ as vs' := by
  cases vs with
  | nil => exact h.elim
  | cons v vs' => exact ⟨v, vs', rfl, h.1, h.2⟩
theorem sv_StOk_nil {ρ : List Int} {vs : List Value} (h : sv_StOk ρ [] vs) : vs = [] := by
  cases vs with
  | nil => rfl
  | cons v vs' => exact h.elim
theorem sv_VOk1 {ρ : List Int} {e : SvL} {v : Value} (h : sv_VOk ρ (1, e) v) : ∃ x : Int32, v = .int x ∧ sv_ev ρ e = some x.toInt := by
  obtain ⟨x, rfl, -⟩ := sv_val1 h.1
  exact ⟨x, rfl, h.2.2⟩
theorem sv_VOk2 {ρ : List Int} {e : SvL} {v : Value} (h : sv_VOk ρ (2, e) v) : ∃ x : Int64, v = .long x ∧ sv_ev ρ e = some x.toInt := by
  obtain ⟨x, rfl, -⟩ := sv_val2 h.1
  exact ⟨x, rfl, h.2.2⟩
theorem sv_VOk3 {ρ : List Int} {e : SvL} {v : Value} (h : sv_VOk ρ (3, e) v) : (v = .null ∧ sv_ev ρ e = some (-1)) ∨ ∃ a : Nat, v = .ref a ∧ sv_ev ρ e = some (a : Int) := by
  rcases sv_val3 h.1 with ⟨rfl, -⟩ | ⟨a, rfl, -⟩
  · exact Or.inl ⟨rfl, h.2.2⟩
  · exact Or.inr ⟨a, rfl, h.2.2⟩
theorem sv_mkV1 {ρ : List Int} {e : SvL} {x : Int32} (h : sv_ev ρ e = some x.toInt) : sv_VOk ρ (1, e) (.int x) := ⟨rfl, Nat.succ_ne_zero _, h⟩
theorem sv_mkV2 {ρ : List Int} {e : SvL} {x : Int64} (h : sv_ev ρ e = some x.toInt) : sv_VOk ρ (2, e) (.long x) := ⟨rfl, Nat.succ_ne_zero _, h⟩
theorem sv_mkV3 {ρ : List Int} {e : SvL} {a : Nat} (h : sv_ev ρ e = some (a : Int)) : sv_VOk ρ (3, e) (.ref a) := ⟨rfl, Nat.succ_ne_zero _, h⟩
theorem sv_mkV3n {ρ : List Int} {e : SvL} (h : sv_ev ρ e = some (-1)) : sv_VOk ρ (3, e) .null := ⟨rfl, Nat.succ_ne_zero _, h⟩
theorem sv_in_ok {ρ : List Int} {b : List SvB} (hb : sv_BOk ρ b) {e : SvL} {x lo hi : Int} (h1 : sv_ev ρ e = some x) (h2 : sv_in b e lo hi = true) : lo ≤ x ∧ x ≤ hi := by
  unfold sv_in at h2
  cases hl : sv_lb b e with
  | none => rw [hl] at h2; simp at h2
  | some a =>
    rw [hl] at h2
    cases hu : sv_ub b e with
    | none => rw [hu] at h2; simp at h2
    | some c =>
      rw [hu] at h2
      simp only [Bool.and_eq_true, sv_le_iff] at h2
      have h3 := sv_lb_ok hb h1 hl
      have h4 := sv_ub_ok hb h1 hu
      omega
section SVB
variable {P : Nat → List Nat → List Int → (Nat → Nat) → Heap → Prop} {D : va_G} {kd : List SvK} {κ : Nat → Nat} {H : Heap} {ρ : List Int} {nL : Nat} {ls : Array Slot} {st : List Value} {S : SvS}
theorem sv_FOk_app {τ : List Int} {f : SvF} (h : sv_FOk P D kd κ H ρ f) : sv_FOk P D kd κ H (ρ ++ τ) f := by
  obtain ⟨vs, h1, h2⟩ := h
  exact ⟨vs, sv_evs_app h1, h2⟩
theorem sv_two_ok {w w' : List Nat} {b : List SvB} {fs : List SvF} (hb : sv_BOk ρ b) (hf : ∀ f ∈ fs, sv_FOk P D kd κ H ρ f) {e : SvL} {x lo hi : Int} (h1 : sv_ev ρ e = some x) (h2 : sv_two b fs e lo hi w = some w') : lo ≤ x ∧ x ≤ hi := by
  unfold sv_two at h2
  split at h2
  · rename_i c1 w1 e1
    split at h2
    · rename_i c2 w2 e2
      cases hp : (sv_prove b fs c1 (sv_addc e (Int.neg lo)) && sv_prove b fs c2 (sv_addc (sv_sc (-1) e) hi)) with
      | false => rw [hp] at h2; simp at h2
      | true =>
        rw [Bool.and_eq_true] at hp
        have g1 := sv_prove_ok hb hf (sv_ev_addc h1) hp.1
        have g2 := sv_prove_ok hb hf (sv_ev_addc (sv_ev_sc h1)) hp.2
        have g3 : 0 ≤ x + -lo := g1
        omega
    · simp at h2
  · simp at h2
/-- a state whose operands go on with a new number -/
theorem sv_fresh_ok {rest : List SvA} {st' : List Value} {t : Nat} {lo hi : Int} {v : Value} (hS : sv_Sat P D kd κ H ρ nL ls st S) (hr : sv_StOk ρ rest st') (ht : sv_tag v = t) (ht0 : t ≠ 0) (h1 : lo ≤ sv_enc v) (h2 : sv_enc v ≤ hi) :
    sv_Sat P D kd κ H (ρ ++ [sv_enc v]) nL ls (v :: st') (sv_fresh S t rest lo hi) := by
  obtain ⟨hb, ⟨lv, hl1, hl2⟩, -, hf⟩ := hS
  refine ⟨sv_BOk_add hb h1 (fun h e => by cases e; exact h2), ⟨lv, hl1, sv_LoOk_app hl2⟩, ⟨⟨ht, ht0, sv_ev_v (sv_nth_last hb _)⟩, sv_StOk_app hr⟩, fun f hm => sv_FOk_app (hf f hm)⟩
theorem sv_stk_ok {rest : List SvA} {st' : List Value} {a : SvA} {v : Value} (hS : sv_Sat P D kd κ H ρ nL ls st S) (hr : sv_StOk ρ rest st') (hv : sv_VOk ρ a v) : sv_Sat P D kd κ H ρ nL ls (v :: st') (S.1, S.2.1, a :: rest, S.2.2.2) := ⟨hS.1, hS.2.1, ⟨hv, hr⟩, hS.2.2.2⟩
theorem sv_pop_ok {rest : List SvA} {st' : List Value} (hS : sv_Sat P D kd κ H ρ nL ls st S) (hr : sv_StOk ρ rest st') : sv_Sat P D kd κ H ρ nL ls st' (S.1, S.2.1, rest, S.2.2.2) := ⟨hS.1, hS.2.1, hr, hS.2.2.2⟩
theorem sv_res_ok {t : Nat} {S' : SvS} {rest : List SvA} {e : SvL} {w w' : List Nat} {st' : List Value} {v : Value} {z : Int} (hS : sv_Sat P D kd κ H ρ nL ls st S) (hr : sv_StOk ρ rest st') (h : sv_res t S rest e w = some (S', w')) (hz : sv_ev ρ e = some z) (ht : sv_tag v = t) (ht0 : t ≠ 0) (h1 : sv_lo t ≤ sv_enc v) (h2 : sv_enc v ≤ sv_hi t) (hx : sv_lo t ≤ z → z ≤ sv_hi t → sv_enc v = z) :
    ∃ τ, sv_Sat P D kd κ H (ρ ++ τ) nL ls (v :: st') S' := by
  unfold sv_res at h
  split at h
  · cases hi : sv_in S.1 e (sv_lo t) (sv_hi t) with
    | false => rw [hi] at h; simp at h
    | true =>
      rw [hi] at h
      simp only [cond_true, Option.some.injEq, Prod.mk.injEq] at h
      obtain ⟨rfl, -⟩ := h
      obtain ⟨g1, g2⟩ := sv_in_ok hS.1 hz hi
      refine ⟨[], ?_⟩
      rw [List.append_nil]
      exact sv_stk_ok hS hr ⟨ht, ht0, by rw [hx g1 g2]; exact hz⟩
  · split at h
    · rename_i w2 hi
      simp only [Option.some.injEq, Prod.mk.injEq] at h
      obtain ⟨rfl, -⟩ := h
      obtain ⟨g1, g2⟩ := sv_two_ok hS.1 hS.2.2.2 hz hi
      refine ⟨[], ?_⟩
      rw [List.append_nil]
      exact sv_stk_ok hS hr ⟨ht, ht0, by rw [hx g1 g2]; exact hz⟩
    · simp at h
  · simp only [Option.some.injEq, Prod.mk.injEq] at h
    obtain ⟨rfl, -⟩ := h
    exact ⟨_, sv_fresh_ok hS hr ht ht0 h1 h2⟩
  · simp at h
end SVB
theorem sv_r1 (x : Int32) : sv_lo 1 ≤ x.toInt ∧ x.toInt ≤ sv_hi 1 := by
  have h1 := Int32.le_toInt x
  have h2 := Int32.toInt_lt x
  have e1 : sv_lo 1 = -2147483648 := rfl
  have e2 : sv_hi 1 = 2147483647 := rfl
  rw [e1, e2]
  omega
theorem sv_r2 (x : Int64) : sv_lo 2 ≤ x.toInt ∧ x.toInt ≤ sv_hi 2 := by
  have h1 := Int64.le_toInt x
  have h2 := Int64.toInt_lt x
  have e1 : sv_lo 2 = -9223372036854775808 := rfl
  have e2 : sv_hi 2 = 9223372036854775807 := rfl
  rw [e1, e2]
  omega
theorem sv_bm32 {z : Int} (h1 : sv_lo 1 ≤ z) (h2 : z ≤ sv_hi 1) : z.bmod (2 ^ 32) = z := by
  have e1 : sv_lo 1 = -2147483648 := rfl
  have e2 : sv_hi 1 = 2147483647 := rfl
  rw [e1] at h1
  rw [e2] at h2
  exact Int.bmod_eq_of_le_mul_two (by omega) (by omega)
theorem sv_bm64 {z : Int} (h1 : sv_lo 2 ≤ z) (h2 : z ≤ sv_hi 2) : z.bmod (2 ^ 64) = z := by
  have e1 : sv_lo 2 = -9223372036854775808 := rfl
  have e2 : sv_hi 2 = 9223372036854775807 := rfl
  rw [e1] at h1
  rw [e2] at h2
  exact Int.bmod_eq_of_le_mul_two (by omega) (by omega)
