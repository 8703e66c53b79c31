theorem sv_mkf_mem {f : SvF} : ∀ {fs : List SvL} {l : List SvF}, f ∈ sv_mkf fs l → (∃ e ∈ fs, f = (0, [], [e])) ∨ f ∈ l
  | [], l, h => Or.inr h
  | e :: t, l, h => by
    simp only [sv_mkf] at h
    rcases List.mem_cons.mp h with h | h
    · exact Or.inl ⟨e, List.mem_cons_self, h⟩
    · rcases sv_mkf_mem h with ⟨e2, h2, h3⟩ | h2
      · exact Or.inl ⟨e2, List.mem_cons_of_mem _ h2, h3⟩
      · exact Or.inr h2
theorem sv_cst_ok {ρ : List Int} {b : List SvB} (hb : sv_BOk ρ b) {e : SvL} {x k : Int} (h1 : sv_ev ρ e = some x) (h2 : sv_cst b e = some k) : x = k := by
  unfold sv_cst at h2
  split at h2
  · rename_i lo hl
    split at h2
    · rename_i hi hu
      cases hq : sv_ieq lo hi with
      | false => simp only [hq, cond_false] at h2; cases h2
      | true =>
        simp only [hq, cond_true, Option.some.injEq] at h2
        have e1 := (sv_ieq_iff _ _).mp hq
        have e2 := sv_lb_ok hb h1 hl
        have e3 := sv_ub_ok hb h1 hu
        omega
    · simp at h2
  · simp at h2
theorem sv_sel_ok {ρ : List Int} {b : List SvB} (hb : sv_BOk ρ b) {t k : Nat} {e : SvL} {x : Int} (h1 : sv_ev ρ e = some x) (h2 : sv_sel t b e = some k) : x = (k : Int) ∧ k < sv_bits t := by
  unfold sv_sel at h2
  split at h2
  · rename_i j hc
    cases hq : Nat.blt j (sv_bits t) with
    | false => simp only [hq, cond_false] at h2; cases h2
    | true =>
      simp only [hq, cond_true, Option.some.injEq] at h2
      subst h2
      exact ⟨sv_cst_ok hb h1 hc, Nat.lt_of_lt_of_le (Nat.lt_succ_self _) (Nat.le_of_ble_eq_true hq)⟩
  · simp at h2
theorem sv_evv {ρ : List Int} {b : List SvB} (hb : sv_BOk ρ b) (x : Int) : sv_ev (ρ ++ [x]) (sv_v b.length) = some x := sv_ev_v (sv_nth_last hb x)
theorem sv_pc_ok {o : Option SvS} {k pc : Nat} {w w' : List Nat} {r : List (SvS × Nat)} (h : sv_pc o k pc w = some (r, w')) : ∃ S', o = some S' ∧ r = [(S', pc + k)] := by
  unfold sv_pc at h
  split at h
  · rename_i S'
    simp only [Option.some.injEq, Prod.mk.injEq] at h
    exact ⟨S', rfl, h.1.symm⟩
  · simp at h
theorem sv_pr_ok {o : Option (SvS × List Nat)} {k pc : Nat} {w' : List Nat} {r : List (SvS × Nat)} (h : sv_pr o k pc = some (r, w')) : ∃ S' w2, o = some (S', w2) ∧ r = [(S', pc + k)] := by
  unfold sv_pr at h
  split at h
  · rename_i S' w2
    simp only [Option.some.injEq, Prod.mk.injEq] at h
    exact ⟨S', w2, rfl, h.1.symm⟩
  · simp at h
section SVF
variable {P : Nat → List Nat → List Int → (Nat → Nat) → Heap → Prop} {D : va_G} {kd : List SvK} {κ : Nat → Nat} {H : Heap} {ρ : List Int} {nL : Nat} {ls : Array Slot} {st : List Value} {S S' : SvS} {rest : List SvA} {st' : List Value} {t : Nat} {v : Value}
theorem sv_freshF_ok {lo hi : Int} {fs : List SvL} (hS : sv_Sat P D kd κ H ρ nL ls st S) (hr : sv_StOk ρ rest st') (ht : sv_tag v = t) (ht0 : t ≠ 0) (h1 : lo ≤ sv_enc v) (h2 : sv_enc v ≤ hi) (hf : ∀ e ∈ fs, ∃ y, sv_ev (ρ ++ [sv_enc v]) e = some y ∧ 0 ≤ y) :
    sv_Sat P D kd κ H (ρ ++ [sv_enc v]) nL ls (v :: st') (sv_freshF S t rest lo hi fs) := by
  obtain ⟨q1, q2, q3, q4⟩ := sv_fresh_ok hS hr ht ht0 h1 h2
  refine ⟨q1, q2, q3, fun f hm => ?_⟩
  rcases sv_mkf_mem hm with ⟨e, he, rfl⟩ | hm
  · obtain ⟨y, h3, h4⟩ := hf e he
    exact ⟨[y], sv_evs_cons.mpr ⟨y, [], h3, rfl, rfl⟩, h4⟩
  · exact q4 f hm
theorem sv_divk_ok {e : SvL} {k x : Int} (hS : sv_Sat P D kd κ H ρ nL ls st S) (hr : sv_StOk ρ rest st') (h : sv_divk t S rest e k = some S') (hk : 1 ≤ k) (hx : sv_ev ρ e = some x) (ht : sv_tag v = t) (ht0 : t ≠ 0) (hv : sv_enc v = x.tdiv k) (h1 : sv_lo t ≤ sv_enc v) (h2 : sv_enc v ≤ sv_hi t) : sv_Sat P D kd κ H (ρ ++ [sv_enc v]) nL ls (v :: st') S' := by
  have e0 := Int.mul_tdiv_add_tmod x k
  have e1 := Int.tmod_lt_of_pos x (show 0 < k by omega)
  have e2 := Int.lt_tmod_of_pos x (show 0 < k by omega)
  have e3 := sv_evv hS.1 (sv_enc v)
  have e4 := sv_ev_app (τ := [sv_enc v]) hx
  unfold sv_divk at h
  split at h
  · rename_i lo hl
    split at h
    · rename_i hi hu
      have g1 := sv_lb_ok hS.1 hx hl
      have g2 := sv_ub_ok hS.1 hx hu
      cases hq : sv_ge0 lo with
      | true =>
        simp only [hq, cond_true, Option.some.injEq] at h
        subst h
        have h0 : 0 ≤ lo := (sv_ge0_iff lo).mp hq
        have e5 := Int.tmod_nonneg k (show 0 ≤ x by omega)
        have e6 : x.tdiv k = x / k := Int.tdiv_eq_ediv_of_nonneg (by omega)
        refine sv_freshF_ok hS hr ht ht0 ?_ ?_ (fun e he => ?_)
        · rw [hv, e6]; exact Int.ediv_le_ediv (by omega) g1
        · rw [hv, e6]; exact Int.ediv_le_ediv (by omega) g2
        · simp only [List.mem_cons, List.not_mem_nil, or_false] at he
          rcases he with rfl | rfl
          · refine ⟨_, sv_ev_sub e4 (sv_ev_sc e3), ?_⟩
            rw [hv]; omega
          · refine ⟨_, sv_ev_addc (sv_ev_sub (sv_ev_sc e3) e4), ?_⟩
            rw [hv]
            show 0 ≤ k * x.tdiv k - x + (k - 1)
            omega
      | false =>
        simp only [hq, cond_false, Option.some.injEq] at h
        subst h
        refine sv_freshF_ok hS hr ht ht0 h1 h2 (fun e he => ?_)
        simp only [List.mem_cons, List.not_mem_nil, or_false] at he
        rcases he with rfl | rfl
        · refine ⟨_, sv_ev_addc (sv_ev_sub e4 (sv_ev_sc e3)), ?_⟩
          rw [hv]
          show 0 ≤ x - k * x.tdiv k + (k - 1)
          omega
        · refine ⟨_, sv_ev_addc (sv_ev_sub (sv_ev_sc e3) e4), ?_⟩
          rw [hv]
          show 0 ≤ k * x.tdiv k - x + (k - 1)
          omega
    · simp at h
  · simp at h
theorem sv_remk_ok {e : SvL} {k x : Int} (hS : sv_Sat P D kd κ H ρ nL ls st S) (hr : sv_StOk ρ rest st') (h : sv_remk t S rest e k = some S') (hk : 1 ≤ k) (hx : sv_ev ρ e = some x) (ht : sv_tag v = t) (ht0 : t ≠ 0) (hv : sv_enc v = x.tmod k) : ∃ τ, sv_Sat P D kd κ H (ρ ++ τ) nL ls (v :: st') S' := by
  have e0 := Int.mul_tdiv_add_tmod x k
  have e1 := Int.tmod_lt_of_pos x (show 0 < k by omega)
  have e2 := Int.lt_tmod_of_pos x (show 0 < k by omega)
  unfold sv_remk at h
  split at h
  · rename_i lo hl
    have g1 := sv_lb_ok hS.1 hx hl
    cases hq : sv_ge0 lo with
    | true =>
      simp only [hq, cond_true] at h
      split at h
      · rename_i hi hu
        have g2 := sv_ub_ok hS.1 hx hu
        simp only [Option.some.injEq] at h
        subst h
        have h0 : 0 ≤ lo := (sv_ge0_iff lo).mp hq
        have e5 := Int.tmod_nonneg k (show 0 ≤ x by omega)
        have e6 : x.tdiv k = x / k := Int.tdiv_eq_ediv_of_nonneg (by omega)
        have hb1 : sv_BOk (ρ ++ [x.tdiv k]) (S.1 ++ [(Int.ediv lo k, some (Int.ediv hi k))]) := sv_BOk_add hS.1 (by rw [e6]; exact Int.ediv_le_ediv (by omega) g1) (fun h q => by cases q; rw [e6]; exact Int.ediv_le_ediv (by omega) g2)
        have hb2 := sv_BOk_add (x := sv_enc v) (lo := 0) (hi := some (Int.sub k 1)) hb1 (by rw [hv]; exact e5) (fun h q => by cases q; rw [hv]; show _ ≤ k - 1; omega)
        have hr2 : ρ ++ [x.tdiv k, sv_enc v] = (ρ ++ [x.tdiv k]) ++ [sv_enc v] := by simp
        have e3 : sv_ev (ρ ++ [x.tdiv k, sv_enc v]) (sv_v S.1.length) = some (x.tdiv k) := by rw [hr2]; exact sv_ev_app (sv_evv hS.1 _)
        have e8 : sv_ev (ρ ++ [x.tdiv k, sv_enc v]) (sv_v (S.1.length + 1)) = some (sv_enc v) := by
          rw [hr2]
          have := sv_evv hb1 (sv_enc v)
          rw [List.length_append] at this
          exact this
        have e4 : sv_ev (ρ ++ [x.tdiv k, sv_enc v]) e = some x := sv_ev_app hx
        obtain ⟨lv, hl1, hl2⟩ := hS.2.1
        refine ⟨[x.tdiv k, sv_enc v], by rw [hr2]; exact hb2, ⟨lv, hl1, sv_LoOk_app hl2⟩, ⟨⟨ht, ht0, e8⟩, sv_StOk_app hr⟩, fun f hm => ?_⟩
        rcases sv_mkf_mem hm with ⟨e', he, rfl⟩ | hm
        · simp only [List.mem_cons, List.not_mem_nil, or_false] at he
          rcases he with rfl | rfl
          · refine ⟨[_], sv_evs_cons.mpr ⟨_, [], sv_ev_sub (sv_ev_sub e4 (sv_ev_sc e3)) e8, rfl, rfl⟩, ?_⟩
            rw [hv]
            show 0 ≤ x - k * x.tdiv k - x.tmod k
            omega
          · refine ⟨[_], sv_evs_cons.mpr ⟨_, [], sv_ev_sub e8 (sv_ev_sub e4 (sv_ev_sc e3)), rfl, rfl⟩, ?_⟩
            rw [hv]
            show 0 ≤ x.tmod k - (x - k * x.tdiv k)
            omega
        · exact sv_FOk_app (hS.2.2.2 f hm)
      · simp at h
    | false =>
      simp only [hq, cond_false, Option.some.injEq] at h
      subst h
      exact ⟨_, sv_fresh_ok hS hr ht ht0 (by rw [hv]; show 1 - k ≤ _; omega) (by rw [hv]; show _ ≤ k - 1; omega)⟩
  · simp at h
theorem sv_shrk_ok {e : SvL} {k : Nat} {x : Int} (hS : sv_Sat P D kd κ H ρ nL ls st S) (hr : sv_StOk ρ rest st') (h : sv_shrk t S rest e k = some S') (hx : sv_ev ρ e = some x) (ht : sv_tag v = t) (ht0 : t ≠ 0) (hv : sv_enc v = x / ((2 ^ k : Nat) : Int)) : sv_Sat P D kd κ H (ρ ++ [sv_enc v]) nL ls (v :: st') S' := by
  have hp : (0 : Int) < ((2 ^ k : Nat) : Int) := by have := Nat.two_pow_pos k; omega
  have e0 := Int.mul_ediv_add_emod x ((2 ^ k : Nat) : Int)
  have e1 := Int.emod_lt_of_pos x hp
  have e2 := Int.emod_nonneg x (show ((2 ^ k : Nat) : Int) ≠ 0 by omega)
  have e3 := sv_evv hS.1 (sv_enc v)
  have e4 := sv_ev_app (τ := [sv_enc v]) hx
  unfold sv_shrk at h
  split at h
  · rename_i lo hl
    split at h
    · rename_i hi hu
      have g1 := sv_lb_ok hS.1 hx hl
      have g2 := sv_ub_ok hS.1 hx hu
      simp only [Option.some.injEq] at h
      subst h
      refine sv_freshF_ok hS hr ht ht0 ?_ ?_ (fun e he => ?_)
      · rw [hv]; exact Int.ediv_le_ediv hp g1
      · rw [hv]; exact Int.ediv_le_ediv hp g2
      · simp only [List.mem_cons, List.not_mem_nil, or_false] at he
        rcases he with rfl | rfl
        · refine ⟨_, sv_ev_sub e4 (sv_ev_sc e3), ?_⟩
          rw [hv]
          show 0 ≤ x - ((2 ^ k : Nat) : Int) * (x / ((2 ^ k : Nat) : Int))
          omega
        · refine ⟨_, sv_ev_addc (sv_ev_sub (sv_ev_sc e3) e4), ?_⟩
          rw [hv]
          show 0 ≤ ((2 ^ k : Nat) : Int) * (x / ((2 ^ k : Nat) : Int)) - x + (((2 ^ k : Nat) : Int) - 1)
          omega
    · simp at h
  · simp at h
theorem sv_modk_ok {e : SvL} {k : Nat} {x : Int} (hS : sv_Sat P D kd κ H ρ nL ls st S) (hr : sv_StOk ρ rest st') (h : sv_modk t S rest e k = some S') (hx : sv_ev ρ e = some x) (ht : sv_tag v = t) (ht0 : t ≠ 0) (hv : sv_enc v = x % ((2 ^ k : Nat) : Int)) : sv_Sat P D kd κ H (ρ ++ [x / ((2 ^ k : Nat) : Int), sv_enc v]) nL ls (v :: st') S' := by
  have hp : (0 : Int) < ((2 ^ k : Nat) : Int) := by have := Nat.two_pow_pos k; omega
  have e0 := Int.mul_ediv_add_emod x ((2 ^ k : Nat) : Int)
  have e1 := Int.emod_lt_of_pos x hp
  have e2 := Int.emod_nonneg x (show ((2 ^ k : Nat) : Int) ≠ 0 by omega)
  unfold sv_modk at h
  split at h
  · rename_i lo hl
    split at h
    · rename_i hi hu
      have g1 := sv_lb_ok hS.1 hx hl
      have g2 := sv_ub_ok hS.1 hx hu
      simp only [Option.some.injEq] at h
      subst h
      have hb1 : sv_BOk (ρ ++ [x / ((2 ^ k : Nat) : Int)]) (S.1 ++ [(Int.ediv lo (Int.ofNat (2 ^ k)), some (Int.ediv hi (Int.ofNat (2 ^ k))))]) := sv_BOk_add hS.1 (Int.ediv_le_ediv hp g1) (fun h q => by cases q; exact Int.ediv_le_ediv hp g2)
      have hb2 := sv_BOk_add (x := sv_enc v) (lo := 0) (hi := some (Int.sub (Int.ofNat (2 ^ k)) 1)) hb1 (by rw [hv]; exact e2) (fun h q => by cases q; rw [hv]; show _ ≤ ((2 ^ k : Nat) : Int) - 1; omega)
      have hr2 : ρ ++ [x / ((2 ^ k : Nat) : Int), sv_enc v] = (ρ ++ [x / ((2 ^ k : Nat) : Int)]) ++ [sv_enc v] := by simp
      have e3 : sv_ev (ρ ++ [x / ((2 ^ k : Nat) : Int), sv_enc v]) (sv_v S.1.length) = some (x / ((2 ^ k : Nat) : Int)) := by rw [hr2]; exact sv_ev_app (sv_evv hS.1 _)
      have e5 : sv_ev (ρ ++ [x / ((2 ^ k : Nat) : Int), sv_enc v]) (sv_v (S.1.length + 1)) = some (sv_enc v) := by
        rw [hr2]
        have := sv_evv hb1 (sv_enc v)
        rw [List.length_append] at this
        exact this
      have e4 : sv_ev (ρ ++ [x / ((2 ^ k : Nat) : Int), sv_enc v]) e = some x := sv_ev_app hx
      obtain ⟨lv, hl1, hl2⟩ := hS.2.1
      refine ⟨by rw [hr2]; exact hb2, ⟨lv, hl1, sv_LoOk_app hl2⟩, ⟨⟨ht, ht0, e5⟩, sv_StOk_app hr⟩, fun f hm => ?_⟩
      rcases sv_mkf_mem hm with ⟨e', he, rfl⟩ | hm
      · simp only [List.mem_cons, List.not_mem_nil, or_false] at he
        rcases he with rfl | rfl
        · refine ⟨[_], sv_evs_cons.mpr ⟨_, [], sv_ev_sub (sv_ev_sub e4 (sv_ev_sc e3)) e5, rfl, rfl⟩, ?_⟩
          rw [hv]
          show 0 ≤ x - ((2 ^ k : Nat) : Int) * (x / ((2 ^ k : Nat) : Int)) - x % ((2 ^ k : Nat) : Int)
          omega
        · refine ⟨[_], sv_evs_cons.mpr ⟨_, [], sv_ev_sub e5 (sv_ev_sub e4 (sv_ev_sc e3)), rfl, rfl⟩, ?_⟩
          rw [hv]
          show 0 ≤ x % ((2 ^ k : Nat) : Int) - (x - ((2 ^ k : Nat) : Int) * (x / ((2 ^ k : Nat) : Int)))
          omega
      · exact sv_FOk_app (hS.2.2.2 f hm)
    · simp at h
  · simp at h
end SVF
