-- ===== matching a state with a template =====
def sv_vsF : Nat → Nat → List SvL
  | _, 0 => []
  | i, n + 1 => sv_v i :: sv_vsF (i + 1) n
def sv_appl : List SvL → List SvL → List SvL
  | [], b => b
  | x :: t, b => x :: sv_appl t b
/-- the numbers keep their bounds -/
def sv_mb (S : SvS) : List SvL → List SvB → List Nat → Option (List Nat)
  | [], [], w => some w
  | e :: es, q :: qs, w => match sv_pos S (sv_addc e (Int.neg q.1)) w with
    | some w1 => (match q.2 with
      | none => sv_mb S es qs w1
      | some hi => (match sv_pos S (sv_addc (sv_sc (-1) e) hi) w1 with
        | some w2 => sv_mb S es qs w2
        | none => none))
    | none => none
  | _, _, _ => none
def sv_mv (σ : List SvL) (a : SvA) (b : SvA) : Bool := Nat.beq a.1 b.1 && (match sv_su σ a.2 with
  | some x => sv_leq x b.2
  | none => false)
def sv_mst (σ : List SvL) : List SvA → List SvA → Bool
  | [], [] => true
  | a :: as, b :: bs => sv_mv σ a b && sv_mst σ as bs
  | _, _ => false
def sv_mlo (σ : List SvL) (have0 : List (Nat × SvA)) : List (Nat × SvA) → Bool
  | [] => true
  | (i, a) :: as => (match sv_get have0 i with
    | some b => sv_mv σ a b
    | none => false) && sv_mlo σ have0 as
/-- a fact that null makes hold -/
def sv_nul (t : Nat) (st : List Nat) (es : List SvL) : Bool := match t, st, es with
  | 1, [K], [a] => !(Nat.beq K 0) && sv_leq a (sv_k (-1))
  | 2, _, [a, _] => sv_leq a (sv_k (-1))
  | _, _, _ => false
def sv_mf (S : SvS) (σ : List SvL) : List SvF → List Nat → Option (List Nat)
  | [], w => some w
  | f :: fs, w => match sv_sus σ f.2.2 with
    | some es => bif Nat.beq f.1 0 then (match es with
        | [x] => (match sv_pos S x w with
          | some w1 => sv_mf S σ fs w1
          | none => none)
        | _ => none)
      else bif sv_fin (f.1, f.2.1, es) S.2.2.2 || sv_nul f.1 f.2.1 es then sv_mf S σ fs w else none
    | none => none
def sv_matchF (S T : SvS) (σ : List SvL) (w : List Nat) : Option (List Nat) := match sv_mb S σ T.1 w with
  | some w1 => sv_mf S σ T.2.2.2 w1
  | none => none
/-- the first n0 numbers stand for themselves; the others are read -/
def sv_match (n0 : Nat) (S T : SvS) (w : List Nat) : Option (List SvL × List Nat) := match sv_rlins (Nat.sub T.1.length n0) w with
  | some (es, w1) => bif sv_mlo (sv_appl (sv_vsF 0 n0) es) S.2.1 T.2.1 && sv_mst (sv_appl (sv_vsF 0 n0) es) T.2.2.1 S.2.2.1 then (match sv_matchF S T (sv_appl (sv_vsF 0 n0) es) w1 with
      | some w2 => some (sv_appl (sv_vsF 0 n0) es, w2)
      | none => none) else none
  | none => none
theorem sv_appl_eq : ∀ (a b : List SvL), sv_appl a b = a ++ b
  | [], _ => rfl
  | x :: t, b => by simp [sv_appl, sv_appl_eq t b]
theorem sv_vsF_nth : ∀ (i n j : Nat), j < n → sv_nth (sv_vsF i n) j = some (sv_v (i + j))
  | i, 0, j, h => absurd h (Nat.not_lt_zero j)
  | i, n + 1, 0, h => rfl
  | i, n + 1, j + 1, h => by
    simp only [sv_vsF, sv_nth]
    rw [sv_vsF_nth (i + 1) n j (by omega)]
    congr 2
    omega
section SVM
variable {P : Nat → List Nat → List Int → (Nat → Nat) → Heap → Prop} {D : va_G} {AC : Nat → ClassId} {kd : List SvK} {κ : Nat → Nat} {H : Heap} {ρ τ : List Int} {nL : Nat} {ls : Array Slot} {st : List Value} {S T : SvS} {σ : List SvL} {w w' : List Nat}
theorem sv_mb_ok (hS : sv_Sat P D kd κ H ρ nL ls st S) : ∀ {es : List SvL} {qs : List SvB} {w w' : List Nat}, sv_mb S es qs w = some w' → (∀ e ∈ es, ∃ x, sv_ev ρ e = some x) → ∃ τ, sv_evs ρ es = some τ ∧ sv_BOk τ qs
  | [], [], w, w', _, _ => ⟨[], rfl, rfl, fun i x q h _ => by simp [sv_nth] at h⟩
  | [], _ :: _, w, w', h, _ => by simp [sv_mb] at h
  | _ :: _, [], w, w', h, _ => by simp [sv_mb] at h
  | e :: es, q :: qs, w, w', h, hd => by
    obtain ⟨x, hx⟩ := hd e List.mem_cons_self
    have hd' := fun e0 h0 => hd e0 (List.mem_cons_of_mem _ h0)
    have fin : ∀ {w1 w2}, sv_mb S es qs w1 = some w2 → q.1 ≤ x → (∀ hi, q.2 = some hi → x ≤ hi) → ∃ τ, sv_evs ρ (e :: es) = some τ ∧ sv_BOk τ (q :: qs) := fun h1 h2 h3 => by
      obtain ⟨τ, t1, t2⟩ := sv_mb_ok hS h1 hd'
      refine ⟨x :: τ, sv_evs_cons.mpr ⟨_, _, hx, t1, rfl⟩, by simp [t2.1], fun i y q0 hy hq => ?_⟩
      cases i with
      | zero =>
        simp only [sv_nth, Option.some.injEq] at hy hq
        subst hy
        subst hq
        exact ⟨h2, h3⟩
      | succ i => exact t2.2 i y q0 hy hq
    simp only [sv_mb] at h
    split at h
    · rename_i w1 h1
      have g1 := sv_pos_ok hS (sv_ev_addc hx) h1
      have g1 : 0 ≤ x + -q.1 := g1
      split at h
      · rename_i h2
        exact fin h (by omega) (fun hi h3 => by rw [h2] at h3; cases h3)
      · rename_i hi h2
        split at h
        · rename_i w2 h3
          have g2 := sv_pos_ok hS (sv_ev_addc (sv_ev_sc hx)) h3
          exact fin h (by omega) (fun hi' h4 => by rw [h2] at h4; cases h4; omega)
        · simp at h
    · simp at h
theorem sv_mv_ok (hσ : sv_evs ρ σ = some τ) {a b : SvA} {v : Value} (h : sv_mv σ a b = true) (hv : sv_VOk ρ b v) : sv_VOk τ a v := by
  unfold sv_mv at h
  rw [Bool.and_eq_true] at h
  have e1 := Nat.eq_of_beq_eq_true h.1
  have h2 := h.2
  split at h2
  · rename_i x hx
    obtain ⟨y, y1, y2⟩ := sv_su_ok hσ hx
    rw [sv_leq_eq h2, hv.2.2] at y2
    cases y2
    exact ⟨by rw [e1]; exact hv.1, by rw [e1]; exact hv.2.1, y1⟩
  · simp at h2
theorem sv_mst_ok (hσ : sv_evs ρ σ = some τ) : ∀ {as bs : List SvA} {st : List Value}, sv_mst σ as bs = true → sv_StOk ρ bs st → sv_StOk τ as st
  | [], [], st, _, hs => by rw [sv_StOk_nil hs]; trivial
  | [], _ :: _, _, h, _ => by simp [sv_mst] at h
  | _ :: _, [], _, h, _ => by simp [sv_mst] at h
  | a :: as, b :: bs, st, h, hs => by
    simp only [sv_mst, Bool.and_eq_true] at h
    obtain ⟨v, vs, rfl, h1, h2⟩ := sv_StOk_cons hs
    exact ⟨sv_mv_ok hσ h.1 h1, sv_mst_ok hσ h.2 h2⟩
theorem sv_mlo_ok (hσ : sv_evs ρ σ = some τ) {lv : List (Nat × Value)} {hv : List (Nat × SvA)} (hl : lv_has ls nL lv) (h1 : sv_LoOk ρ hv lv) : ∀ {as : List (Nat × SvA)}, sv_mlo σ hv as = true → ∃ lv', lv_has ls nL lv' ∧ sv_LoOk τ as lv'
  | [], _ => ⟨[], ⟨hl.1, hl.2.1, fun q hq => by cases hq⟩, trivial⟩
  | (i, a) :: as, h => by
    simp only [sv_mlo, Bool.and_eq_true] at h
    obtain ⟨lv', l1, l2⟩ := sv_mlo_ok hσ hl h1 h.2
    have h2 := h.1
    split at h2
    · rename_i b hb
      obtain ⟨k, v, k1, k2⟩ := sv_get_ok h1 hb
      refine ⟨(i, v) :: lv', ⟨l1.1, l1.2.1, fun q hq => ?_⟩, rfl, sv_mv_ok hσ h2 k2, l2⟩
      rcases List.mem_cons.mp hq with rfl | hq
      · exact lv_at hl k k1
      · exact l1.2.2 q hq
    · simp at h2
theorem sv_nul_ok {t : Nat} {s0 : List Nat} {es : List SvL} {vs : List Int} (h : sv_nul t s0 es = true) (hv : sv_evs ρ es = some vs) : sv_FI P D kd κ H t s0 vs := by
  unfold sv_nul at h
  split at h
  · rename_i K a
    rw [Bool.and_eq_true, Bool.not_eq_true'] at h
    obtain ⟨y1, z1, f3, f4, rfl⟩ := sv_evs_cons.mp hv
    simp only [sv_evs, Option.some.injEq] at f4
    subst f4
    rw [sv_leq_eq h.2, sv_ev_k] at f3
    cases f3
    exact ⟨(fun z => by rw [z] at h; exact absurd h.1 (by decide)), Or.inl rfl⟩
  · rename_i a n
    obtain ⟨y1, z1, f3, f4, rfl⟩ := sv_evs_cons.mp hv
    obtain ⟨y2, z2, f5, f6, rfl⟩ := sv_evs_cons.mp f4
    simp only [sv_evs, Option.some.injEq] at f6
    subst f6
    rw [sv_leq_eq h, sv_ev_k] at f3
    cases f3
    show ∀ q : Nat, (-1 : Int) = (q : Int) → _
    intro q hq
    omega
  · simp at h
theorem sv_mf_ok (hS : sv_Sat P D kd κ H ρ nL ls st S) (hσ : sv_evs ρ σ = some τ) : ∀ {fs : List SvF} {w w' : List Nat}, sv_mf S σ fs w = some w' → ∀ f ∈ fs, sv_FOk P D kd κ H τ f
  | [], _, _, _, f, hf => by cases hf
  | g :: fs, w, w', h, f, hf => by
    simp only [sv_mf] at h
    split at h
    · rename_i es he
      obtain ⟨ys, y1, y2⟩ := sv_sus_ok hσ he
      cases h0 : Nat.beq g.1 0 with
      | true =>
        rw [h0] at h
        simp only [cond_true] at h
        have e0 := Nat.eq_of_beq_eq_true h0
        split at h
        · rename_i x
          split at h
          · rename_i w1 h1
            rcases List.mem_cons.mp hf with rfl | hf
            · obtain ⟨z1, z2, f3, f4, rfl⟩ := sv_evs_cons.mp y2
              simp only [sv_evs, Option.some.injEq] at f4
              subst f4
              have g1 := sv_pos_ok hS f3 h1
              refine ⟨[z1], y1, ?_⟩
              rw [e0]
              exact g1
            · exact sv_mf_ok hS hσ h f hf
          · simp at h
        · simp at h
      | false =>
        rw [h0] at h
        simp only [cond_false] at h
        cases hq : (sv_fin (g.1, g.2.1, es) S.2.2.2 || sv_nul g.1 g.2.1 es) with
        | false => rw [hq] at h; cases h
        | true =>
          rw [hq] at h
          simp only [cond_true] at h
          rcases List.mem_cons.mp hf with rfl | hf
          · rw [Bool.or_eq_true] at hq
            rcases hq with hq | hq
            · obtain ⟨vs, v1, v2⟩ := hS.2.2.2 _ (sv_fin_mem hq)
              have v1 : sv_evs ρ es = some vs := v1
              rw [y2] at v1
              cases v1
              exact ⟨ys, y1, v2⟩
            · exact ⟨ys, y1, sv_nul_ok hq y2⟩
          · exact sv_mf_ok hS hσ h f hf
    · simp at h
/-- every form of the list has a value -/
def sv_wfs (n : Nat) : List SvL → Bool
  | [] => true
  | e :: t => sv_wfT n e.2 && sv_wfs n t
theorem sv_wfs_ok {b : List SvB} (hb : sv_BOk ρ b) : ∀ {es : List SvL}, sv_wfs b.length es = true → ∀ e ∈ es, ∃ x, sv_ev ρ e = some x
  | [], _, _, h => by cases h
  | e0 :: es, h, e, he => by
    simp only [sv_wfs, Bool.and_eq_true] at h
    rcases List.mem_cons.mp he with rfl | he
    · exact sv_wf_ok hb h.1
    · exact sv_wfs_ok hb h.2 e he
theorem sv_matchF_ok (hS : sv_Sat P D kd κ H ρ nL ls st S) (hwf : sv_wfs S.1.length σ = true) (h : sv_matchF S T σ w = some w') : ∃ τ, sv_evs ρ σ = some τ ∧ sv_BOk τ T.1 ∧ ∀ f ∈ T.2.2.2, sv_FOk P D kd κ H τ f := by
  unfold sv_matchF at h
  split at h
  · rename_i w1 h1
    obtain ⟨τ, t1, t2⟩ := sv_mb_ok hS h1 (sv_wfs_ok hS.1 hwf)
    exact ⟨τ, t1, t2, sv_mf_ok hS t1 h⟩
  · simp at h
theorem sv_match_ok {n0 : Nat} (hS : sv_Sat P D kd κ H ρ nL ls st S) (h : sv_match n0 S T w = some (σ, w')) (hwf : sv_wfs S.1.length σ = true) : ∃ τ, sv_evs ρ σ = some τ ∧ sv_Sat P D kd κ H τ nL ls st T ∧ ∀ j, j < n0 → sv_nth τ j = sv_nth ρ j := by
  unfold sv_match at h
  split at h
  · rename_i es w1 hes
    cases hq : (sv_mlo (sv_appl (sv_vsF 0 n0) es) S.2.1 T.2.1 && sv_mst (sv_appl (sv_vsF 0 n0) es) T.2.2.1 S.2.2.1) with
    | false => rw [hq] at h; cases h
    | true =>
      rw [hq] at h
      simp only [cond_true] at h
      rw [Bool.and_eq_true] at hq
      split at h
      · rename_i w2 h2
        simp only [Option.some.injEq, Prod.mk.injEq] at h
        obtain ⟨rfl, -⟩ := h
        obtain ⟨τ, t1, t2, t3⟩ := sv_matchF_ok hS hwf h2
        obtain ⟨lv, l1, l2⟩ := hS.2.1
        refine ⟨τ, t1, ⟨t2, sv_mlo_ok t1 l1 l2 hq.1, sv_mst_ok t1 hq.2 hS.2.2.1, t3⟩, fun j hj => ?_⟩
        have e1 : sv_nth (sv_appl (sv_vsF 0 n0) es) j = some (sv_v j) := by
          rw [sv_appl_eq]
          have := sv_vsF_nth 0 n0 j hj
          rw [Nat.zero_add] at this
          exact sv_nth_app this
        obtain ⟨x, x1, x2⟩ := sv_evs_nth t1 e1
        rw [x1, sv_ev_v_inv x2]
      · simp at h
  · simp at h
end SVM
