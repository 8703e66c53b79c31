-- ===== commands between instructions =====
def sv_del : Nat → List SvF → List SvF
  | _, [] => []
  | 0, _ :: t => t
  | n + 1, f :: t => f :: sv_del n t
theorem sv_del_mem {f : SvF} : ∀ {l : List SvF} {n : Nat}, f ∈ sv_del n l → f ∈ l
  | [], 0, h => by simp [sv_del] at h
  | [], _ + 1, h => by simp [sv_del] at h
  | _ :: _, 0, h => List.mem_cons_of_mem _ h
  | a :: t, n + 1, h => by
    simp only [sv_del] at h
    rcases List.mem_cons.mp h with rfl | h
    · exact List.mem_cons_self
    · exact List.mem_cons_of_mem _ (sv_del_mem h)
def sv_posc (S : SvS) (e : SvL) (w : List Nat) : Option (List Nat) := match sv_rcert w with
  | some (c, w1) => bif sv_prove S.1 S.2.2.2 c e then some w1 else none
  | none => none
/-- the form e is not below 0: by the bounds, or else a certificate -/
def sv_pos (S : SvS) (e : SvL) (w : List Nat) : Option (List Nat) := match sv_lb S.1 e with
  | some x => bif sv_ge0 x then some w else sv_posc S e w
  | none => sv_posc S e w
/-- a row of a kind, by the facts -/
def sv_ivy (S : SvS) (r : SvL) (K ci : Nat) : List (Nat × Int) → Option SvL
  | [] => some (0, [])
  | (u, c) :: l => match sv_ffd r K ci (Nat.div u 2) S.2.2.2 with
    | some (t, x) => match sv_ivy S r K ci l with
      | some y => bif Nat.beq (Nat.mod u 2) 0 then some (sv_add (sv_sc c x) y) else (bif Nat.beq t 3 && sv_nonn S.1 x then (match sv_lfd x S.2.2.2 with
        | some n => some (sv_add (sv_sc c n) y)
        | none => none) else none)
      | none => none
    | none => none
def sv_gh (kd : List SvK) (S : SvS) (j : Nat) : Option (Nat × SvL × SvK) := match sv_nth S.2.2.2 j with
  | some (1, [K], [r]) => match sv_nth kd K with
    | some k => bif sv_nonn S.1 r then some (K, r, k) else none
    | none => none
  | _ => none
def sv_pop (S : SvS) : SvS := match S.2.2.1 with
  | _ :: r => (S.1, S.2.1, r, S.2.2.2)
  | [] => S
/-- 0 a form that is not below 0 (factor less 1, form, certificate) | 1 drop a fact | 2 two ways | 3 no way | 4 a field's value | 5 a length | 6 a row of a kind | the rest by rules -/
def sv_K (rl : Nat → SvS → List Nat → Option (SvS × List Nat)) (kd : List SvK) (S : SvS) (pc : Nat) (k : Nat) (w : List Nat) : Option (List (SvS × Nat) × List Nat) := match k with
  | 0 => (match w with
    | q :: w1 => (match sv_rlin w1 with
      | some (e, w2) => (match sv_rcert w2 with
        | some (c, w3) => bif sv_wfT S.1.length e.2 && sv_prove S.1 S.2.2.2 c (sv_addc (sv_sc (Int.ofNat (q + 1)) e) (Int.ofNat q)) then some ([(sv_asm S e, pc)], w3) else none
        | none => none)
      | none => none)
    | [] => none)
  | 1 => (match w with
    | j :: w1 => some ([((S.1, S.2.1, S.2.2.1, sv_del j S.2.2.2), pc)], w1)
    | [] => none)
  | 2 => (match sv_rlin w with
    | some (e, w1) => bif sv_wfT S.1.length e.2 then some ([(sv_asm S e, pc), (sv_asm S (sv_addc (sv_sc (-1) e) (-1)), pc)], w1) else none
    | none => none)
  | 3 => (match sv_rcert w with
    | some (c, w1) => bif sv_prove S.1 S.2.2.2 c (sv_k (-1)) then some ([], w1) else none
    | none => none)
  | 4 => (match w with
    | j :: f :: w1 => (match sv_gh kd S j with
      | some (K, r, kk) => (match sv_nth kk.2.2.1 f with
        | some T => bif Nat.beq kk.1 0 && sv_tok T then some ([(sv_pop (sv_rdv S T S.2.2.1 (fun x => (3, [K, kk.2.1, f, T.1], [r, x]))), pc)], w1) else none
        | none => none)
      | none => none)
    | _ => none)
  | 5 => (match w with
    | j :: w1 => (match sv_gh kd S j with
      | some (_, r, kk) => bif Nat.beq kk.1 1 then some ([((S.1 ++ [(Int.ofNat kk.2.2.2.2.1, some (Int.ofNat kk.2.2.2.2.2.1))], S.2.1, S.2.2.1, (2, [], [r, sv_v S.1.length]) :: S.2.2.2), pc)], w1) else none
      | none => none)
    | _ => none)
  | 6 => (match w with
    | j :: i :: w1 => (match sv_gh kd S j with
      | some (K, r, kk) => (match sv_nth kk.2.2.2.1 i with
        | some iv => (match sv_ivy S r K kk.2.1 iv.2 with
          | some y => bif Nat.beq kk.1 0 then some ([(sv_asm S (sv_addc y iv.1), pc)], w1) else none
          | none => none)
        | none => none)
      | none => none)
    | _ => none)
  | k + 7 => (match rl k S w with
    | some (S', w1) => some ([(S', pc)], w1)
    | none => none)
/-- what a rule must keep -/
def sv_Rl (P : Nat → List Nat → List Int → (Nat → Nat) → Heap → Prop) (D : va_G) (AC : Nat → ClassId) (kd : List SvK) (B0 : Nat) (rl : Nat → SvS → List Nat → Option (SvS × List Nat)) : Prop :=
  ∀ (k : Nat) (S S' : SvS) (w w' : List Nat), rl k S w = some (S', w') → ∀ (κ : Nat → Nat) (H : Heap) (ρ : List Int) (nL : Nat) (ls : Array Slot) (st : List Value), sv_TI D AC kd B0 κ H → sv_Sat P D kd κ H ρ nL ls st S → ∃ τ, sv_Sat P D kd κ H (ρ ++ τ) nL ls st S'
section SVK
variable {p : Program} {l : Launch} {e : Env} {R : Room} {s : State} {m : MethodId} {args : Array Value} {below : List Frame} {meth : Method} {c : Code} {Q : State → Prop}
variable {P : Nat → List Nat → List Int → (Nat → Nat) → Heap → Prop} {D : va_G} {AC : Nat → ClassId} {kd : List SvK} {B0 : Nat} {κ0 : Nat → Nat} {mF mA : List Nat} {Px : List Int → Prop} {nL : Nat} {cc : ByteArray} {pc n : Nat} {w w' : List Nat} {S : SvS} {r : List (SvS × Nat)}
theorem sv_pos_ok {κ : Nat → Nat} {H : Heap} {ρ : List Int} {ls : Array Slot} {st : List Value} (hS : sv_Sat P D kd κ H ρ nL ls st S) {g : SvL} {x : Int} (hx : sv_ev ρ g = some x) (h : sv_pos S g w = some w') : 0 ≤ x := by
  have hc : sv_posc S g w = some w' → 0 ≤ x := fun h => by
    unfold sv_posc at h
    split at h
    · rename_i c w1 hc
      cases hp : sv_prove S.1 S.2.2.2 c g with
      | false => rw [hp] at h; cases h
      | true => exact sv_prove_ok hS.1 hS.2.2.2 hx hp
    · cases h
  unfold sv_pos at h
  split at h
  · rename_i y hy
    cases hg : sv_ge0 y with
    | false => rw [hg] at h; exact hc h
    | true =>
      have h1 := sv_lb_ok hS.1 hx hy
      have h2 := (sv_ge0_iff y).mp hg
      omega
  · exact hc h
theorem sv_ivy_ok {κ : Nat → Nat} {H : Heap} {ρ : List Int} {ls : Array Slot} {st : List Value} (hS : sv_Sat P D kd κ H ρ nL ls st S) {r : SvL} {K ci a : Nat} {cell : Cell} (hra : sv_ev ρ r = some (a : Int)) (hcl : H[a]? = some cell) :
    ∀ {l : List (Nat × Int)} {y : SvL}, sv_ivy S r K ci l = some y → sv_ev ρ y = some (sv_ivT D H ci cell l)
  | [], y, h => by
    simp only [sv_ivy, Option.some.injEq] at h
    subst h
    rfl
  | (u, c) :: l, y, h => by
    unfold sv_ivy at h
    split at h
    · rename_i t x hx
      split at h
      · rename_i y1 hy1
        have ih := sv_ivy_ok hS hra hcl hy1
        have key : ∃ w, cell.slots[D.2 ci (u / 2)]? = some w ∧ sv_tag w = t ∧ sv_ev ρ x = some (sv_enc w) := by
          obtain ⟨vs, f1, f2⟩ := hS.2.2.2 _ (sv_ffd_ok hx)
          obtain ⟨y1, z1, f3, f4, rfl⟩ := sv_evs_cons.mp f1
          obtain ⟨y2, z2, f5, f6, rfl⟩ := sv_evs_cons.mp f4
          simp only [sv_evs, Option.some.injEq] at f6
          subst f6
          obtain ⟨-, -, f7⟩ := f2
          rw [hra] at f3
          cases f3
          obtain ⟨-, c2, v2, f8, f9, f10, f11⟩ := f7 a rfl
          rw [hcl] at f8
          cases f8
          exact ⟨v2, f9, f10, by rw [f11]; exact f5⟩
        obtain ⟨w, w1, w2, w3⟩ := key
        cases hq : Nat.beq (Nat.mod u 2) 0 with
        | true =>
          rw [hq] at h
          simp only [cond_true, Option.some.injEq] at h
          subst h
          have e : u % 2 = 0 := Nat.eq_of_beq_eq_true hq
          rw [sv_ev_add (sv_ev_sc w3) ih]
          simp only [sv_ivT, sv_cv, w1, if_pos e]
        | false =>
          rw [hq] at h
          simp only [cond_false] at h
          have e : ¬ u % 2 = 0 := fun e => by
            have hq : Nat.beq (u % 2) 0 = false := hq
            rw [e] at hq
            cases hq
          cases hn : (Nat.beq t 3 && sv_nonn S.1 x) with
          | false => rw [hn] at h; cases h
          | true =>
            rw [hn] at h
            simp only [cond_true] at h
            rw [Bool.and_eq_true] at hn
            have e3 := Nat.eq_of_beq_eq_true hn.1
            have e4 := sv_nonn_ok hS.1 hn.2 w3
            split at h
            · rename_i n hlf
              simp only [Option.some.injEq] at h
              subst h
              rw [e3] at w2
              rcases sv_val3 w2 with ⟨rfl, e5⟩ | ⟨b, rfl, e5⟩
              · omega
              · obtain ⟨z0, hm⟩ := sv_lfd_ok hlf
                obtain ⟨vs, f1, f2⟩ := hS.2.2.2 _ hm
                obtain ⟨y3, z1, f3, f4, rfl⟩ := sv_evs_cons.mp f1
                obtain ⟨y2, z2, f5, f6, rfl⟩ := sv_evs_cons.mp f4
                simp only [sv_evs, Option.some.injEq] at f6
                subst f6
                have f2 : ∀ q0 : Nat, y3 = (q0 : Int) → ∃ cell : Cell, H[q0]? = some cell ∧ (cell.slots.size : Int) = y2 := f2
                rw [w3, e5] at f3
                cases f3
                obtain ⟨c2, f7, f8⟩ := f2 b rfl
                rw [sv_ev_add (sv_ev_sc f5) ih]
                simp only [sv_ivT, sv_cv, w1, if_neg e, f7]
                rw [f8]
            · simp at h
      · simp at h
    · simp at h
theorem sv_gh_ok {κ : Nat → Nat} {H : Heap} {ρ : List Int} {ls : Array Slot} {st : List Value} (hT : sv_TI D AC kd B0 κ H) (hS : sv_Sat P D kd κ H ρ nL ls st S) {j K : Nat} {r : SvL} {k : SvK} (h : sv_gh kd S j = some (K, r, k)) :
    sv_nth kd K = some k ∧ K ≠ 0 ∧ ∃ (a : Nat) (cell : Cell), sv_ev ρ r = some (a : Int) ∧ κ a = K ∧ H[a]? = some cell ∧ sv_ClOk D AC κ H k cell := by
  unfold sv_gh at h
  split at h
  · rename_i K' r' hn
    split at h
    · rename_i k' hk
      cases hq : sv_nonn S.1 r' with
      | false => rw [hq] at h; cases h
      | true =>
        rw [hq] at h
        simp only [cond_true, Option.some.injEq, Prod.mk.injEq] at h
        obtain ⟨rfl, rfl, rfl⟩ := h
        obtain ⟨vs, f1, f2⟩ := hS.2.2.2 _ (List.mem_of_getElem? (by rw [← sv_nth_eq]; exact hn))
        obtain ⟨y1, z1, f3, f4, rfl⟩ := sv_evs_cons.mp f1
        simp only [sv_evs, Option.some.injEq] at f4
        subst f4
        have hnn := sv_nonn_ok hS.1 hq f3
        obtain ⟨k0, g⟩ := f2
        rcases g with g | ⟨q, rfl, g1, g2⟩
        · omega
        · obtain ⟨k2, cell, g3, g4, g5⟩ := hT.1 q (by rw [g2]; exact k0)
          rw [g2, hk] at g3
          cases g3
          exact ⟨hk, k0, q, cell, f3, g2, g4, g5⟩
    · simp at h
  · simp at h
theorem sv_K_ok (hPx : ∀ ρ τ, Px ρ → Px (ρ ++ τ)) {rl : Nat → SvS → List Nat → Option (SvS × List Nat)} (hrl : sv_Rl P D AC kd B0 rl) {k : Nat} (h : sv_K rl kd S pc k w = some (r, w')) (hk : ∀ q ∈ r, sv_Good p l e R s m args below meth c Q P D AC kd B0 κ0 mF mA Px nL q.1 q.2) : sv_Good p l e R s m args below meth c Q P D AC kd B0 κ0 mF mA Px nL S pc := by
  intro κ H locs ρ ls st hI hP hS
  unfold sv_K at h
  split at h
  · split at h
    · rename_i q w1
      split at h
      · rename_i e0 w2 h2
        split at h
        · rename_i c0 w3 h3
          cases hq : (sv_wfT S.1.length e0.2 && sv_prove S.1 S.2.2.2 c0 (sv_addc (sv_sc (Int.ofNat (q + 1)) e0) (Int.ofNat q))) with
          | false => rw [hq] at h; cases h
          | true =>
            rw [hq] at h
            simp only [cond_true, Option.some.injEq, Prod.mk.injEq] at h
            obtain ⟨rfl, -⟩ := h
            rw [Bool.and_eq_true] at hq
            obtain ⟨x, hx⟩ := sv_wf_ok hS.1 hq.1
            have h4 := sv_prove_ok hS.1 hS.2.2.2 (sv_ev_addc (sv_ev_sc hx)) hq.2
            have h4 : 0 ≤ ((q + 1 : Nat) : Int) * x + (q : Int) := h4
            have h5 : 0 ≤ x := by
              by_cases hx0 : 0 ≤ x
              · exact hx0
              · exfalso
                have h6 : ((q + 1 : Nat) : Int) * x ≤ ((q + 1 : Nat) : Int) * (-1) := Int.mul_le_mul_of_nonneg_left (by omega) (by omega)
                rw [Int.mul_neg, Int.mul_one] at h6
                omega
            exact hk _ List.mem_cons_self κ H locs ρ ls st hI hP (sv_asm_ok hS hx h5)
        · simp at h
      · simp at h
    · simp at h
  · split at h
    · rename_i j w1
      simp only [Option.some.injEq, Prod.mk.injEq] at h
      obtain ⟨rfl, -⟩ := h
      exact hk _ List.mem_cons_self κ H locs ρ ls st hI hP ⟨hS.1, hS.2.1, hS.2.2.1, fun f hf => hS.2.2.2 f (sv_del_mem hf)⟩
    · simp at h
  · split at h
    · rename_i e0 w1 h2
      cases hq : sv_wfT S.1.length e0.2 with
      | false => rw [hq] at h; cases h
      | true =>
        rw [hq] at h
        simp only [cond_true, Option.some.injEq, Prod.mk.injEq] at h
        obtain ⟨rfl, -⟩ := h
        obtain ⟨x, hx⟩ := sv_wf_ok hS.1 hq
        by_cases hx0 : 0 ≤ x
        · exact hk _ List.mem_cons_self κ H locs ρ ls st hI hP (sv_asm_ok hS hx hx0)
        · refine hk _ (List.mem_cons_of_mem _ List.mem_cons_self) κ H locs ρ ls st hI hP (sv_asm_ok hS (sv_ev_addc (sv_ev_sc hx)) ?_)
          omega
    · simp at h
  · split at h
    · rename_i c0 w1 h2
      cases hq : sv_prove S.1 S.2.2.2 c0 (sv_k (-1)) with
      | false => rw [hq] at h; cases h
      | true =>
        have h4 := sv_prove_ok hS.1 hS.2.2.2 (sv_ev_k ρ (-1)) hq
        exact absurd h4 (by decide)
    · simp at h
  · split at h
    · rename_i j f w1
      split at h
      · rename_i K rr kk hg
        split at h
        · rename_i T hT
          cases hq : (Nat.beq kk.1 0 && sv_tok T) with
          | false => rw [hq] at h; cases h
          | true =>
            rw [hq] at h
            simp only [cond_true, Option.some.injEq, Prod.mk.injEq] at h
            obtain ⟨rfl, -⟩ := h
            rw [Bool.and_eq_true] at hq
            have q1 := Nat.eq_of_beq_eq_true hq.1
            obtain ⟨g1, g2, a, cell, g3, g4, g5, g6⟩ := sv_gh_ok hI.1 hS hg
            rcases g6 with ⟨-, g6, g7, g8, g9⟩ | ⟨g6, -⟩
            · obtain ⟨v, g10, g11⟩ := g8 f T hT
              have hlt : f < kk.2.2.1.length := by
                rw [sv_nth_eq] at hT
                exact (List.getElem?_eq_some_iff.mp hT).1
              have hS' := sv_rdv_ok (f0 := fun x => (3, [K, kk.2.1, f, T.1], [rr, x])) hS hS.2.2.1 g11 hq.2 ⟨[_, _], sv_evs_cons.mpr ⟨_, _, sv_ev_app g3, sv_evs_cons.mpr ⟨_, _, sv_evv hS.1 _, rfl, rfl⟩, rfl⟩, g2, ⟨kk, g1, q1, rfl, hlt⟩, fun q hq0 => by
                have e1 : a = q := by omega
                subst e1
                exact ⟨g4, cell, v, g5, g10, g11.1, rfl⟩⟩
              exact hk _ List.mem_cons_self κ H locs (ρ ++ [sv_enc v]) ls st hI (hPx _ _ hP) ⟨hS'.1, hS'.2.1, hS'.2.2.1.2, hS'.2.2.2⟩
            · rw [q1] at g6; cases g6
        · simp at h
      · simp at h
    · simp at h
  · split at h
    · rename_i j w1
      split at h
      · rename_i K rr kk hg
        cases hq : Nat.beq kk.1 1 with
        | false => rw [hq] at h; cases h
        | true =>
          rw [hq] at h
          simp only [cond_true, Option.some.injEq, Prod.mk.injEq] at h
          obtain ⟨rfl, -⟩ := h
          have q1 := Nat.eq_of_beq_eq_true hq
          obtain ⟨g1, g2, a, cell, g3, g4, g5, g6⟩ := sv_gh_ok hI.1 hS hg
          rcases g6 with ⟨g6, -⟩ | ⟨-, g6, g7, g8, g9, -⟩
          · rw [q1] at g6; cases g6
          · obtain ⟨lv, hl1, hl2⟩ := hS.2.1
            refine hk _ List.mem_cons_self κ H locs (ρ ++ [(cell.slots.size : Int)]) ls st hI (hPx _ _ hP) ⟨sv_BOk_add hS.1 ?_ (fun h0 e0 => ?_), ⟨lv, hl1, sv_LoOk_app hl2⟩, sv_StOk_app hS.2.2.1, fun f hf => ?_⟩
            · show ((kk.2.2.2.2.1 : Nat) : Int) ≤ _
              omega
            · cases e0
              show _ ≤ ((kk.2.2.2.2.2.1 : Nat) : Int)
              omega
            · rcases List.mem_cons.mp hf with rfl | hf
              · refine ⟨[_, _], sv_evs_cons.mpr ⟨_, _, sv_ev_app g3, sv_evs_cons.mpr ⟨_, _, sv_evv hS.1 _, rfl, rfl⟩, rfl⟩, fun q hq0 => ?_⟩
                have e1 : a = q := by omega
                subst e1
                exact ⟨cell, g5, rfl⟩
              · exact sv_FOk_app (hS.2.2.2 f hf)
      · simp at h
    · simp at h
  · split at h
    · rename_i j i w1
      split at h
      · rename_i K rr kk hg
        split at h
        · rename_i iv hiv
          split at h
          · rename_i y hy
            cases hq : Nat.beq kk.1 0 with
            | false => rw [hq] at h; cases h
            | true =>
              rw [hq] at h
              simp only [cond_true, Option.some.injEq, Prod.mk.injEq] at h
              obtain ⟨rfl, -⟩ := h
              have q1 := Nat.eq_of_beq_eq_true hq
              obtain ⟨g1, g2, a, cell, g3, g4, g5, g6⟩ := sv_gh_ok hI.1 hS hg
              rcases g6 with ⟨-, g6, g7, g8, g9⟩ | ⟨g6, -⟩
              · have e1 := sv_ivy_ok hS g3 g5 hy
                have e2 := g9 iv (List.mem_of_getElem? (by rw [← sv_nth_eq]; exact hiv))
                refine hk _ List.mem_cons_self κ H locs ρ ls st hI hP (sv_asm_ok hS (sv_ev_addc e1) ?_)
                omega
              · rw [q1] at g6; cases g6
          · simp at h
        · simp at h
      · simp at h
    · simp at h
  · rename_i k'
    split at h
    · rename_i S' w1 hr
      simp only [Option.some.injEq, Prod.mk.injEq] at h
      obtain ⟨rfl, -⟩ := h
      obtain ⟨τ, hτ⟩ := hrl _ _ _ _ _ hr κ H ρ nL ls st hI.1 hS
      exact hk _ List.mem_cons_self κ H locs (ρ ++ τ) ls st hI (hPx _ _ hP) hτ
    · simp at h
end SVK
