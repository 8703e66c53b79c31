-- ===== laws of opaque facts =====
/-- a law between facts of one state: bounds of its numbers, what it asks, what it gives -/
abbrev SvM : Type := List SvB × List SvF × List SvF
def sv_LmOk (P : Nat → List Nat → List Int → (Nat → Nat) → Heap → Prop) (D : va_G) (AC : Nat → ClassId) (kd : List SvK) (B0 : Nat) (L : List SvM) : Prop :=
  ∀ m ∈ L, ∀ (κ : Nat → Nat) (H : Heap) (ρ : List Int), sv_TI D AC kd B0 κ H → sv_BOk ρ m.1 → (∀ f ∈ m.2.1, sv_FOk P D kd κ H ρ f) → ∀ f ∈ m.2.2, sv_FOk P D kd κ H ρ f
/-- a law of a store into an array of a kind: its first numbers are the address, the place, what is stored -/
def sv_SmOk (P : Nat → List Nat → List Int → (Nat → Nat) → Heap → Prop) (D : va_G) (AC : Nat → ClassId) (kd : List SvK) (B0 : Nat) (M : List (Nat × SvM)) : Prop :=
  ∀ m ∈ M, ∀ (κ : Nat → Nat) (H H' : Heap) (ρ : List Int) (q j : Nat) (cell : Cell) (v : Value), sv_TI D AC kd B0 κ H → sv_BOk ρ m.2.1 → (∀ f ∈ m.2.2.1, sv_FOk P D kd κ H ρ f) → sv_nth ρ 0 = some (q : Int) → sv_nth ρ 1 = some (j : Int) → sv_nth ρ 2 = some (sv_enc v) → κ q = m.1 → m.1 ≠ 0 → sv_St H H' q j cell v → ∀ f ∈ m.2.2.2, sv_FOk P D kd κ H' ρ f
/-- 0 an element: address, place, as sv_ax | 1 a law: which, its numbers, certificates | 2 an element known twice: two facts, as sv_ax -/
def sv_rl (L : List SvM) (kd : List SvK) (k : Nat) (S : SvS) (w : List Nat) : Option (SvS × List Nat) := match k with
  | 0 => (match sv_rlin w with
    | some (a, w1) => (match sv_rlin w1 with
      | some (i, w2) => bif sv_wfT S.1.length a.2 && sv_wfT S.1.length i.2 then (match sv_ax kd S a i w2 with
        | some (K, k, w3) => (match sv_nth k.2.2.1 0 with
          | some T => bif sv_tok T then some (sv_pop (sv_rdv S T S.2.2.1 (fun x => (4, [K, T.1], [a, i, x]))), w3) else none
          | none => none)
        | none => none) else none
      | none => none)
    | none => none)
  | 1 => (match w with
    | j :: w1 => (match sv_nth L j with
      | some m => (match sv_rlins (sv_len m.1) w1 with
        | some (σ, w2) => bif sv_wfs (sv_len S.1) σ then (match sv_matchF S (m.1, [], [], m.2.1) σ w2 with
          | some w3 => (match sv_gain σ m.2.2 S with
            | some S' => some (S', w3)
            | none => none)
          | none => none) else none
        | none => none)
      | none => none)
    | [] => none)
  | 2 => (match w with
    | m :: n :: w1 => (match sv_nth S.2.2.2 m with
      | some (4, [K, t], [a, i, x]) => (match sv_nth S.2.2.2 n with
        | some (4, [K', t'], [a', i', x']) => bif Nat.beq K K' && Nat.beq t t' && sv_leq a' a && sv_leq i' i then (match sv_ax kd S a i w1 with
          | some (_, _, w2) => some (sv_asm (sv_asm S (sv_sub x x')) (sv_sub x' x), w2)
          | none => none) else none
        | _ => none)
      | _ => none)
    | _ => none)
  | _ => none
def sv_subF (σ : List SvL) : List SvF → Option (List SvF)
  | [] => some []
  | f :: fs => match sv_sus σ f.2.2 with
    | some es => match sv_subF σ fs with
      | some l => some ((f.1, f.2.1, es) :: l)
      | none => none
    | none => none
def sv_sl (M : List (Nat × SvM)) (S : SvS) (K _t : Nat) (a i x : SvL) (m : Nat) (w : List Nat) : Option (List SvF × List Nat) := match sv_nth M m with
  | some (K', mm) => bif Nat.beq K K' then (match sv_rlins (Nat.sub (sv_len mm.1) 3) w with
    | some (es, w1) => bif sv_wfs (sv_len S.1) (a :: i :: x :: es) then (match sv_matchF S (mm.1, [], [], mm.2.1) (a :: i :: x :: es) w1 with
      | some w2 => (match sv_subF (a :: i :: x :: es) mm.2.2 with
        | some l => some (l, w2)
        | none => none)
      | none => none) else none
    | none => none) else none
  | none => none
section SVLM
variable {P : Nat → List Nat → List Int → (Nat → Nat) → Heap → Prop} {D : va_G} {AC : Nat → ClassId} {kd : List SvK} {B0 : Nat}
theorem sv_subF_ok {κ : Nat → Nat} {H : Heap} {ρ τ : List Int} {σ : List SvL} (hσ : sv_evs ρ σ = some τ) : ∀ {fs l : List SvF}, sv_subF σ fs = some l → (∀ f ∈ fs, sv_FOk P D kd κ H τ f) → ∀ f ∈ l, sv_FOk P D kd κ H ρ f
  | [], l, h, _, f, hf => by
    simp only [sv_subF, Option.some.injEq] at h
    subst h
    cases hf
  | g :: fs, l, h, h1, f, hf => by
    simp only [sv_subF] at h
    split at h
    · rename_i es he
      split at h
      · rename_i l1 hl
        simp only [Option.some.injEq] at h
        subst h
        rcases List.mem_cons.mp hf with rfl | hf
        · obtain ⟨ys, y1, y2⟩ := sv_sus_ok hσ he
          obtain ⟨vs, v1, v2⟩ := h1 g List.mem_cons_self
          rw [v1] at y1
          cases y1
          exact ⟨_, y2, v2⟩
        · exact sv_subF_ok hσ hl (fun g' hg => h1 g' (List.mem_cons_of_mem _ hg)) f hf
      · cases h
    · cases h
theorem sv_sl_ok {M : List (Nat × SvM)} (hM : sv_SmOk P D AC kd B0 M) : sv_Sl P D AC kd B0 (sv_sl M) := by
  intro S K t a i x m w w' l h κ H H' ρ nL ls st q j cell v hT hS ha hi hv hK h0 hst
  unfold sv_sl at h
  split at h
  · rename_i K' mm hm
    cases hk : Nat.beq K K' with
    | false => simp only [hk, cond_false] at h; cases h
    | true =>
      simp only [hk, cond_true] at h
      have e := Nat.eq_of_beq_eq_true hk
      subst e
      split at h
      · rename_i es w1 hes
        cases hw : sv_wfs (sv_len S.1) (a :: i :: x :: es) with
        | false => simp only [hw, cond_false] at h; cases h
        | true =>
          simp only [hw, cond_true] at h
          rw [sv_len_eq] at hw
          split at h
          · rename_i w2 hmf
            split at h
            · rename_i l1 hl
              simp only [Option.some.injEq, Prod.mk.injEq] at h
              obtain ⟨rfl, -⟩ := h
              obtain ⟨τ, t1, t2, t3⟩ := sv_matchF_ok hS hw hmf
              obtain ⟨y1, z1, f3, f4, rfl⟩ := sv_evs_cons.mp t1
              obtain ⟨y2, z2, f5, f6, rfl⟩ := sv_evs_cons.mp f4
              obtain ⟨y3, z3, f7, f8, rfl⟩ := sv_evs_cons.mp f6
              rw [ha] at f3
              rw [hi] at f5
              rw [hv.2.2] at f7
              cases f3
              cases f5
              cases f7
              exact sv_subF_ok t1 hl (hM _ (List.mem_of_getElem? (by rw [← sv_nth_eq]; exact hm)) κ H H' _ q j cell v hT t2 t3 rfl rfl rfl hK h0 hst)
            · cases h
          · cases h
      · cases h
  · cases h
theorem sv_rl_ok {L : List SvM} (hL : sv_LmOk P D AC kd B0 L) : sv_Rl P D AC kd B0 (sv_rl L kd) := by
  intro k S S' w w' h κ H ρ nL ls st hT hS
  unfold sv_rl at h
  split at h
  · split at h
    · rename_i a w1 ha
      split at h
      · rename_i i w2 hi
        cases hq : (sv_wfT S.1.length a.2 && sv_wfT S.1.length i.2) with
        | false => simp only [hq, cond_false] at h; cases h
        | true =>
          simp only [hq, cond_true] at h
          rw [Bool.and_eq_true] at hq
          split at h
          · rename_i K k w3 hax
            split at h
            · rename_i T hTy
              cases ht : sv_tok T with
              | false => simp only [ht, cond_false] at h; cases h
              | true =>
                simp only [ht, cond_true, Option.some.injEq, Prod.mk.injEq] at h
                obtain ⟨rfl, -⟩ := h
                obtain ⟨xa, hxa⟩ := sv_wf_ok hS.1 hq.1
                obtain ⟨xi, hxi⟩ := sv_wf_ok hS.1 hq.2
                obtain ⟨q, cell, g1, g2, g3, g4, g5, g6, g7, g8, g9⟩ := sv_ax_ok hT hS hax hxa hxi
                have hlt : xi.toNat < cell.slots.size := by omega
                have hv : cell.slots[xi.toNat]? = some cell.slots[xi.toNat] := Array.getElem?_eq_getElem hlt
                have hft := g7.2.2.2.2 T hTy _ _ hv
                have hS' := sv_rdv_ok (f0 := fun x => (4, [K, T.1], [a, i, x])) hS hS.2.2.1 hft ht ⟨[_, _, _], sv_evs_cons.mpr ⟨_, _, sv_ev_app hxa, sv_evs_cons.mpr ⟨_, _, sv_ev_app hxi, sv_evs_cons.mpr ⟨_, _, sv_evv hS.1 _, rfl, rfl⟩, rfl⟩, rfl⟩, g3, ⟨k, g4, g5⟩, fun q' j' hq' hj' => by
                  have e1 : q = q' := by omega
                  have e2 : xi.toNat = j' := by omega
                  subst e1
                  subst e2
                  exact ⟨g2, cell, g6, fun _ => ⟨_, hv, hft.1, rfl⟩⟩⟩
                exact ⟨[_], hS'.1, hS'.2.1, hS'.2.2.1.2, hS'.2.2.2⟩
            · cases h
          · cases h
      · cases h
    · cases h
  · split at h
    · rename_i j w1
      split at h
      · rename_i m hm
        split at h
        · rename_i σ w2 hσ
          cases hw : sv_wfs (sv_len S.1) σ with
          | false => simp only [hw, cond_false] at h; cases h
          | true =>
            simp only [hw, cond_true] at h
            rw [sv_len_eq] at hw
            split at h
            · rename_i w3 hmf
              split at h
              · rename_i S1 hg
                simp only [Option.some.injEq, Prod.mk.injEq] at h
                obtain ⟨rfl, -⟩ := h
                obtain ⟨τ, t1, t2, t3⟩ := sv_matchF_ok hS hw hmf
                refine ⟨[], ?_⟩
                rw [List.append_nil]
                exact sv_gain_ok t1 hg (hL m (List.mem_of_getElem? (by rw [← sv_nth_eq]; exact hm)) κ H τ hT t2 t3) hS
              · cases h
            · cases h
        · cases h
      · cases h
    · cases h
  · split at h
    · rename_i m n w1
      split at h
      · rename_i K t a i x hm
        split at h
        · rename_i K' t' a' i' x' hn
          cases hq : (Nat.beq K K' && Nat.beq t t' && sv_leq a' a && sv_leq i' i) with
          | false => simp only [hq, cond_false] at h; cases h
          | true =>
            simp only [hq, cond_true] at h
            simp only [Bool.and_eq_true] at hq
            obtain ⟨⟨⟨q1, q2⟩, q3⟩, q4⟩ := hq
            have e1 := Nat.eq_of_beq_eq_true q1
            have e2 := Nat.eq_of_beq_eq_true q2
            have e3 := sv_leq_eq q3
            have e4 := sv_leq_eq q4
            subst e1
            subst e2
            subst e3
            subst e4
            split at h
            · rename_i K2 k2 w2 hax
              simp only [Option.some.injEq, Prod.mk.injEq] at h
              obtain ⟨rfl, -⟩ := h
              obtain ⟨vs, f1, f2⟩ := hS.2.2.2 _ (List.mem_of_getElem? (by rw [← sv_nth_eq]; exact hm))
              obtain ⟨vs', f1', f2'⟩ := hS.2.2.2 _ (List.mem_of_getElem? (by rw [← sv_nth_eq]; exact hn))
              obtain ⟨y1, z1, f3, f4, rfl⟩ := sv_evs_cons.mp f1
              obtain ⟨y2, z2, f5, f6, rfl⟩ := sv_evs_cons.mp f4
              obtain ⟨y3, z3, f7, f8, rfl⟩ := sv_evs_cons.mp f6
              obtain ⟨u1, r1, d3, d4, rfl⟩ := sv_evs_cons.mp f1'
              obtain ⟨u2, r2, d5, d6, rfl⟩ := sv_evs_cons.mp d4
              obtain ⟨u3, r3, d7, d8, rfl⟩ := sv_evs_cons.mp d6
              simp only [sv_evs, Option.some.injEq] at f8 d8
              subst f8
              subst d8
              rw [f3] at d3
              rw [f5] at d5
              cases d3
              cases d5
              obtain ⟨q, cell, g1, g2, g3, g4, g5, g6, g7, g8, g9⟩ := sv_ax_ok hT hS hax f3 f5
              obtain ⟨-, c1, a2, a3⟩ := f2.2.2 q y2.toNat g1 (by omega)
              obtain ⟨-, c2, b2, b3⟩ := f2'.2.2 q y2.toNat g1 (by omega)
              rw [g6] at a2 b2
              cases a2
              cases b2
              obtain ⟨v1, p1, p2, p3⟩ := a3 (by omega)
              obtain ⟨v2, p4, p5, p6⟩ := b3 (by omega)
              rw [p1] at p4
              cases p4
              have e5 : y3 = u3 := by rw [← p3, ← p6]
              refine ⟨[], ?_⟩
              rw [List.append_nil]
              exact sv_asm_ok (sv_asm_ok hS (sv_ev_sub f7 d7) (by omega)) (sv_ev_sub d7 f7) (by omega)
            · cases h
        · cases h
      · cases h
    · cases h
  · cases h
end SVLM
