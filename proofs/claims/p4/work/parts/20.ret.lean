-- ===== ways out =====
/-- every field by its fact, with the type of the new kind -/
def sv_sty (S : SvS) (r : SvL) (K ci : Nat) : Nat → List SvT → List Nat → Option (List Nat)
  | _, [], w => some w
  | f, T :: Ts, w => match sv_ffd r K ci f S.2.2.2 with
    | some (t, x) => bif sv_tok T && Nat.beq t T.1 then (match sv_ty S t x T w with
      | some w1 => sv_sty S r K ci (f + 1) Ts w1
      | none => none) else none
    | none => none
def sv_siv (S : SvS) (r : SvL) (K ci : Nat) : List SvL → List Nat → Option (List Nat)
  | [], w => some w
  | iv :: l, w => match sv_ivy S r K ci iv.2 with
    | some y => (match sv_pos S (sv_addc y iv.1) w with
      | some w1 => sv_siv S r K ci l w1
      | none => none)
    | none => none
/-- what is known of the fields of what is sealed stays -/
def sv_sealf (r : SvL) (K ci K' ci' n : Nat) : List SvF → List SvF
  | [] => []
  | (3, [K1, c1, f, t], [r1, x]) :: l => bif Nat.beq K1 K && Nat.beq c1 ci && sv_leq r1 r && Nat.blt f n then (3, [K', ci', f, t], [r, x]) :: sv_sealf r K ci K' ci' n l else sv_sealf r K ci K' ci' n l
  | _ :: l => sv_sealf r K ci K' ci' n l
theorem sv_sealf_mem {r : SvL} {K ci K' ci' n : Nat} {f : SvF} : ∀ {fs : List SvF}, f ∈ sv_sealf r K ci K' ci' n fs → ∃ g t x, f = (3, [K', ci', g, t], [r, x]) ∧ g < n ∧ (3, [K, ci, g, t], [r, x]) ∈ fs
  | [], h => by simp [sv_sealf] at h
  | f0 :: l, h => by
    unfold sv_sealf at h
    split at h
    · rename_i e1; cases e1
    · rename_i K1 c1 g t r1 x l' e1
      cases e1
      cases hq : (Nat.beq K1 K && Nat.beq c1 ci && sv_leq r1 r && Nat.blt g n) with
      | true =>
        simp only [hq, cond_true] at h
        simp only [Bool.and_eq_true] at hq
        obtain ⟨⟨⟨q1, q2⟩, q3⟩, q4⟩ := hq
        have q1 := Nat.eq_of_beq_eq_true q1
        have q2 := Nat.eq_of_beq_eq_true q2
        have q3 := sv_leq_eq q3
        have q4 : g < n := Nat.le_of_ble_eq_true q4
        subst q1
        subst q2
        subst q3
        rcases List.mem_cons.mp h with rfl | h
        · exact ⟨g, t, x, rfl, q4, List.mem_cons_self⟩
        · obtain ⟨g', t', x', h1, h2, h3⟩ := sv_sealf_mem h
          exact ⟨g', t', x', h1, h2, List.mem_cons_of_mem _ h3⟩
      | false =>
        simp only [hq, cond_false] at h
        obtain ⟨g', t', x', h1, h2, h3⟩ := sv_sealf_mem h
        exact ⟨g', t', x', h1, h2, List.mem_cons_of_mem _ h3⟩
    · rename_i e1
      cases e1
      obtain ⟨g', t', x', h1, h2, h3⟩ := sv_sealf_mem h
      exact ⟨g', t', x', h1, h2, List.mem_cons_of_mem _ h3⟩
/-- a new tree has no FILES -/
def sv_tot0 (S : SvS) (r : SvL) (K ci : Nat) : Bool := match sv_ffd r K ci g_total S.2.2.2 with
  | some (_, x) => (match sv_ub S.1 x with
    | some u => sv_le u 0
    | none => false)
  | none => false
/-- 0 as it is | what is made changes its kind: the new kind, place of the fact of its kind, types, rows -/
def sv_seal (sup : Nat → List Nat × List Nat) (kd : List SvK) (tw : List (Nat × Nat)) (rw : List Nat) (th : SvL) (S : SvS) (w : List Nat) : Option (SvS × List Nat) := match w with
  | 0 :: w1 => some (S, w1)
  | (K' + 1) :: j :: w1 => (match sv_gh kd S j with
    | some (K, r, k) => (match sv_nth kd (K' + 1), sv_lk tw k.2.1 with
      | some k', some ci' => bif Nat.beq k.1 0 && Nat.beq k'.1 0 && Nat.beq k'.2.1 ci' && sv_nin K rw && sv_leq r th then (match sv_sty S r K k.2.1 0 k'.2.2.1 w1 with
        | some w2 => (match sv_siv S r K k.2.1 k'.2.2.2.1 w2 with
          | some w3 => bif Nat.beq (K' + 1) g_tree && !(sv_tot0 S r K k.2.1) then none else some ((S.1, S.2.1, S.2.2.1, (1, [K' + 1], [r]) :: List.append (sv_sealf r K k.2.1 (K' + 1) ci' (sv_len k'.2.2.1) S.2.2.2) (sv_kps sup [] [] [K] false S.2.2.2)), w3)
          | none => none)
        | none => none) else none
      | _, _ => none)
    | none => none)
  | _ => none
/-- what a method's answer is: 0 none | 1 int | 2 boolean | 3 long | 4 an object | 5 an array -/
def sv_rok (S : SvS) (rt n : Nat) (i : Instr) (st : List SvA) (w : List Nat) : Option (List Nat) := match i, st with
  | .return_, [] => bif Nat.beq rt 0 && Nat.beq n 1 then some w else none
  | .ireturn, [(1, x)] => bif Nat.beq n 1 then (match rt with
    | 1 => some w
    | 2 => (match sv_pos S x w with
      | some w1 => sv_pos S (sv_addc (sv_sc (-1) x) 1) w1
      | none => none)
    | _ => none) else none
  | .lreturn, [(2, _)] => bif Nat.beq rt 3 && Nat.beq n 1 then some w else none
  | .areturn, [(3, _)] => bif Nat.ble 4 rt && Nat.beq n 1 then some w else none
  | _, _ => none
def sv_ans (σ : List SvL) (a : Option SvA) (st : List SvA) : Bool := match a, st with
  | none, [] => true
  | some a, [b] => sv_mv σ a b
  | _, _ => false
def sv_ret (sup : Nat → List Nat × List Nat) (kd : List SvK) (tw : List (Nat × Nat)) (sp : SvP) (rt : Nat) (S : SvS) (i : Instr) (n : Nat) (w : List Nat) : Option (List Nat) := match w with
  | j7 :: j8 :: w1 => (match sv_f7 S.2.2.2 j7 with
    | some h => (match sv_f8 S.2.2.2 j8 with
      | some sl => (match sv_pos S (sv_addc (sv_sub (sv_v 0) h) (Int.ofNat sp.2.2.2.2.2.2.2.1)) w1 with
        | some w2 => (match sv_pos S (sv_addc (sv_sub (sv_v 1) sl) (Int.ofNat sp.2.2.2.2.2.2.2.2)) w2 with
          | some w3 => (match sv_rok S rt n i S.2.2.1 w3 with
            | some w4 => (match sv_seal sup kd tw sp.2.2.2.2.2.1 (sv_this sp.2.1) S w4 with
              | some (S1, k :: w5) => (match sv_nth sp.2.2.2.2.2.2.1 k with
                | some W => (match sv_rlins (sv_len W.1) w5 with
                  | some (es, w6) => bif sv_wfs (sv_len S.1) es && sv_ans (sv_appl (sv_vsF 0 (sv_len sp.1)) es) W.2.2 S.2.2.1 then (match sv_mb S1 es W.1 w6 with
                    | some w7 => sv_mf S1 (sv_appl (sv_vsF 0 (sv_len sp.1)) es) W.2.1 w7
                    | none => none) else none
                  | none => none)
                | none => none)
              | _ => none)
            | none => none)
          | none => none)
        | none => none)
      | none => none)
    | none => none)
  | _ => none
def sv_Tw (D : va_G) (tw : List (Nat × Nat)) : Prop := ∀ ci ci', (ci, ci') ∈ tw → D.1 ci' = D.1 ci ∧ ∀ f, D.2 ci' f = D.2 ci f
def sv_Raw (kd : List SvK) (rw : List Nat) : Prop := ∀ K ∈ rw, ∀ (n : Nat) (k : SvK), sv_nth kd n = some k → ∀ (f : Nat) (T : SvT), sv_nth k.2.2.1 f = some T → T.1 = 3 → T.2.2.2.1 ≠ K
theorem sv_Fr_rf0 {D : va_G} {kd : List SvK} {mF mA : List Nat} {κ : Nat → Nat} {H : Heap} : sv_Fr D kd mF mA κ H H := fun _ c hc => ⟨c, hc, rfl, rfl, rfl, fun _ => rfl, fun _ _ => ⟨fun _ _ _ _ => rfl, fun _ _ => rfl⟩⟩
theorem sv_evT_agree {ρ ρ0 : List Int} (h : ∀ j, j < ρ0.length → sv_nth ρ j = sv_nth ρ0 j) : ∀ {t : List (Nat × Int)} {x : Int}, sv_evT ρ0 t = some x → sv_evT ρ t = some x
  | [], x, h1 => h1
  | (v, c) :: t, x, h1 => by
    obtain ⟨a, b, g1, g2, g3⟩ := sv_evT_cons.mp h1
    refine sv_evT_cons.mpr ⟨a, b, ?_, sv_evT_agree h g2, g3⟩
    rw [h v (by rw [sv_nth_eq] at g1; exact (List.getElem?_eq_some_iff.mp g1).1)]
    exact g1
theorem sv_ev_agree {ρ ρ0 : List Int} (h : ∀ j, j < ρ0.length → sv_nth ρ j = sv_nth ρ0 j) {g : SvL} {x : Int} (h1 : sv_ev ρ0 g = some x) : sv_ev ρ g = some x := by
  obtain ⟨z, h2, h3⟩ := sv_ev_iff.mp h1
  exact sv_ev_iff.mpr ⟨z, sv_evT_agree h h2, h3⟩
/-- what is being made is the first parameter -/
def sv_Th (sp : SvP) : Prop := sp.2.2.2.2.2.1 ≠ [] → ∃ a as, sp.2.1 = (3, a) :: as
theorem sv_FtOk_up {κ : Nat → Nat} {z a K K' : Nat} (hK : κ a = K) {T : SvT} {v : Value} (hT : T.1 = 3 → T.2.2.2.1 ≠ K) (h : sv_FtOk κ z T v) : sv_FtOk (sv_up κ a K') z T v := by
  obtain ⟨h1, h2, h3⟩ := h
  refine ⟨h1, h2, fun ht => ?_⟩
  rcases h3 ht with h4 | ⟨b, h4, h5, h6⟩
  · exact Or.inl h4
  · refine Or.inr ⟨b, h4, h5, ?_⟩
    have hne : b ≠ a := fun e => by
      subst e
      exact hT ht (h6.symm.trans hK)
    show (if b = a then K' else κ b) = _
    rw [if_neg hne]
    exact h6
theorem sv_cv_tw {D : va_G} {H : Heap} {ci ci' : Nat} {cell : Cell} (h : ∀ f, D.2 ci' f = D.2 ci f) (u : Nat) : sv_cv D H ci' cell u = sv_cv D H ci cell u := by
  unfold sv_cv
  rw [h]
theorem sv_ivT_tw {D : va_G} {H : Heap} {ci ci' : Nat} {cell : Cell} (h : ∀ f, D.2 ci' f = D.2 ci f) : ∀ l : List (Nat × Int), sv_ivT D H ci' cell l = sv_ivT D H ci cell l
  | [] => rfl
  | (u, c) :: l => by
    simp only [sv_ivT]
    rw [sv_cv_tw h, sv_ivT_tw h l]
section SVX
variable {P : Nat → List Nat → List Int → (Nat → Nat) → Heap → Prop} {D : va_G} {AC : Nat → ClassId} {kd : List SvK} {B0 : Nat} {κ : Nat → Nat} {H : Heap} {ρ : List Int} {nL : Nat} {ls : Array Slot} {st : List Value} {S S' : SvS} {w w' : List Nat} {sup : Nat → List Nat × List Nat}
theorem sv_sty_ok (hS : sv_Sat P D kd κ H ρ nL ls st S) {r : SvL} {K ci a : Nat} {cell : Cell} (hra : sv_ev ρ r = some (a : Int)) (hcl : H[a]? = some cell) : ∀ {Ts : List SvT} {f0 : Nat} {w w' : List Nat}, sv_sty S r K ci f0 Ts w = some w' → ∀ f T, sv_nth Ts f = some T → ∃ v, cell.slots[D.2 ci (f0 + f)]? = some v ∧ sv_FtOk κ H.size T v
  | [], _, _, _, _, f, T, h => by simp [sv_nth] at h
  | T0 :: Ts, f0, w, w', h, f, T, hT => by
    unfold sv_sty at h
    split at h
    · rename_i t x hx
      cases hq : (sv_tok T0 && Nat.beq t T0.1) with
      | false => rw [hq] at h; cases h
      | true =>
        rw [hq] at h
        simp only [cond_true] at h
        rw [Bool.and_eq_true] at hq
        split at h
        · rename_i w1 h1
          cases f with
          | zero =>
            simp only [sv_nth, Option.some.injEq] at hT
            subst hT
            obtain ⟨vs, f1, f2⟩ := hS.2.2.2 _ (sv_ffd_ok hx)
            obtain ⟨y1, z1, f3, f4, rfl⟩ := sv_evs_cons.mp f1
            obtain ⟨y2, z2, f5, f6, rfl⟩ := sv_evs_cons.mp f4
            simp only [sv_evs, Option.some.injEq] at f6
            subst f6
            obtain ⟨-, -, f7⟩ := f2
            rw [hra] at f3
            cases f3
            obtain ⟨-, c2, v2, f8, f9, f10, f11⟩ := f7 a rfl
            rw [hcl] at f8
            cases f8
            have ht0 : t ≠ 0 := by
              rw [Nat.eq_of_beq_eq_true hq.2]
              exact (sv_tok_ok hq.1).1
            exact ⟨v2, f9, sv_ty_ok hS h1 ⟨f10, ht0, by rw [f11]; exact f5⟩⟩
          | succ f =>
            simp only [sv_nth] at hT
            obtain ⟨v, g1, g2⟩ := sv_sty_ok hS hra hcl h f T hT
            exact ⟨v, by rw [show f0 + (f + 1) = f0 + 1 + f from by omega]; exact g1, g2⟩
        · simp at h
    · simp at h
theorem sv_siv_ok (hS : sv_Sat P D kd κ H ρ nL ls st S) {r : SvL} {K ci a : Nat} {cell : Cell} (hra : sv_ev ρ r = some (a : Int)) (hcl : H[a]? = some cell) : ∀ {l : List SvL} {w w' : List Nat}, sv_siv S r K ci l w = some w' → ∀ iv ∈ l, 0 ≤ iv.1 + sv_ivT D H ci cell iv.2
  | [], _, _, _, iv, h => by cases h
  | i0 :: l, w, w', h, iv, hi => by
    unfold sv_siv at h
    split at h
    · rename_i y hy
      split at h
      · rename_i w1 h1
        rcases List.mem_cons.mp hi with rfl | hi
        · have e1 := sv_pos_ok hS (sv_ev_addc (sv_ivy_ok hS hra hcl hy)) h1
          omega
        · exact sv_siv_ok hS hra hcl h iv hi
      · simp at h
    · simp at h
theorem sv_seal_ok (hgk : sv_Gk kd = true) (hP : sv_PF P sup D kd) {tw : List (Nat × Nat)} {rw0 : List Nat} (htw : sv_Tw D tw) (hraw : sv_Raw kd rw0) (hT : sv_TI D AC kd B0 κ H) (hS : sv_Sat P D kd κ H ρ nL ls st S) {th : SvL} (h : sv_seal sup kd tw rw0 th S w = some (S', w')) :
    ∃ κ', sv_TI D AC kd B0 κ' H ∧ (∀ q, q < H.size → κ' q = κ q ∨ (sv_ev ρ th = some (q : Int) ∧ κ q ∈ rw0)) ∧ sv_Sat P D kd κ' H ρ nL ls st S' := by
  unfold sv_seal at h
  split at h
  · simp only [Option.some.injEq, Prod.mk.injEq] at h
    obtain ⟨rfl, -⟩ := h
    exact ⟨κ, hT, fun q _ => Or.inl rfl, hS⟩
  · rename_i K' j w1
    split at h
    · rename_i K r k hg
      split at h
      · rename_i k' ci' hk' hci
        cases hq : (Nat.beq k.1 0 && Nat.beq k'.1 0 && Nat.beq k'.2.1 ci' && sv_nin K rw0 && sv_leq r th) with
        | false => rw [hq] at h; cases h
        | true =>
          rw [hq] at h
          simp only [cond_true] at h
          simp only [Bool.and_eq_true] at hq
          obtain ⟨⟨⟨⟨q1, q2⟩, q3⟩, q4⟩, q5⟩ := hq
          have q1 := Nat.eq_of_beq_eq_true q1
          have q2 := Nat.eq_of_beq_eq_true q2
          have q3 := Nat.eq_of_beq_eq_true q3
          have q4 := sv_nin_mem q4
          have q5 := sv_leq_eq q5
          subst q5
          split at h
          · rename_i w2 hsty
            split at h
            · rename_i w3 hsiv
              cases hq0 : (Nat.beq (K' + 1) g_tree && !(sv_tot0 S r K k.2.1)) with
              | true => simp only [hq0, cond_true] at h; cases h
              | false =>
              simp only [hq0, cond_false, Option.some.injEq, Prod.mk.injEq] at h
              obtain ⟨rfl, -⟩ := h
              obtain ⟨g1, g2, a, cell, g3, g4, g5, g6⟩ := sv_gh_ok hT hS hg
              obtain ⟨d1, d2⟩ := htw _ _ (sv_lk_ok hci)
              have hty := sv_sty_ok hS g3 g5 hsty
              have hiv := sv_siv_ok hS g3 g5 hsiv
              have hr := hraw K q4
              have hne : ∀ q, q ≠ a → sv_up κ a (K' + 1) q = κ q := fun q hq => if_neg hq
              have haa : sv_up κ a (K' + 1) a = K' + 1 := if_pos rfl
              have hTI : sv_TI D AC kd B0 (sv_up κ a (K' + 1)) H := by
                refine ⟨fun q hq => ?_, fun q k2 hq0 hq hk2 => ?_, hT.2.2.1, ?_⟩
                · by_cases e : q = a
                  · subst e
                    rw [haa]
                    refine ⟨k', cell, hk', g5, ?_⟩
                    rcases g6 with ⟨-, g6, g7, -, -⟩ | ⟨g6, -⟩
                    · refine Or.inl ⟨q2, by rw [q3, d1]; exact g6, g7, fun f T hT' => ?_, fun iv hi => ?_⟩
                      · obtain ⟨v, v1, v2⟩ := hty f T hT'
                        rw [Nat.zero_add] at v1
                        exact ⟨v, by rw [q3, d2]; exact v1, sv_FtOk_up g4 (hr _ _ hk' f T hT') v2⟩
                      · rw [q3, sv_ivT_tw d2]
                        exact hiv iv hi
                    · rw [q1] at g6; cases g6
                  · rw [hne q e] at hq ⊢
                    obtain ⟨k2, c2, f1, f2, f3⟩ := hT.1 q hq
                    refine ⟨k2, c2, f1, f2, ?_⟩
                    rcases f3 with ⟨f3, f4, f5, f6, f7⟩ | ⟨f3, f4, f5, f6, f7, f8⟩
                    · refine Or.inl ⟨f3, f4, f5, fun f T hT' => ?_, f7⟩
                      obtain ⟨v, v1, v2⟩ := f6 f T hT'
                      exact ⟨v, v1, sv_FtOk_up g4 (hr _ _ f1 f T hT') v2⟩
                    · exact Or.inr ⟨f3, f4, f5, f6, f7, fun T hT' i v hv => sv_FtOk_up g4 (hr _ _ f1 0 T hT') (f8 T hT' i v hv)⟩
                · by_cases e : q = a
                  · subst e
                    exfalso
                    have := (hT.2.1 q k hq0 (by rw [g4]; exact g2) (by rw [g4]; exact g1)).1
                    rw [q1] at this
                    cases this
                  · rw [hne q e] at hq hk2
                    exact hT.2.1 q k2 hq0 hq hk2
                · obtain ⟨⟨kt, t1, t2, t3, -⟩, -, ⟨kv, v1, v2, -⟩, -, kf, f1, f2⟩ := sv_Gk_ok hgk
                  refine ⟨fun q a' c0 ca n e1 e2 e3 e4 e5 j hj => ?_, fun q j b c0 cb n e1 e2 e3 e4 e5 => ?_, fun q j c0 n e1 e2 e3 => ?_⟩
                  · by_cases e : q = a
                    · subst e
                      rw [haa] at e1
                      rw [e1, Nat.beq_refl, Bool.true_and, Bool.not_eq_false'] at hq0
                      rw [e1, t1] at hk'
                      cases hk'
                      rw [g5] at e2
                      cases e2
                      have d3 := d2 g_total
                      rw [← q3, t3] at d3
                      rw [d3] at e3
                      unfold sv_tot0 at hq0
                      split at hq0
                      · rename_i tt x hfd
                        obtain ⟨vs, w1, w2⟩ := hS.2.2.2 _ (sv_ffd_ok hfd)
                        obtain ⟨y1, z1, u1, u2, rfl⟩ := sv_evs_cons.mp w1
                        obtain ⟨y2, z2, u3, u4, rfl⟩ := sv_evs_cons.mp u2
                        simp only [sv_evs, Option.some.injEq] at u4
                        subst u4
                        rw [g3] at u1
                        cases u1
                        obtain ⟨-, c3, v3, x1, x2, x3, x4⟩ := w2.2.2 q rfl
                        rw [g5] at x1
                        cases x1
                        rw [e3] at x2
                        cases x2
                        have x4 : n.toInt = y2 := x4
                        split at hq0
                        · rename_i u hu
                          have h1 := sv_ub_ok hS.1 u3 hu
                          have h2 := (sv_le_iff _ _).mp hq0
                          omega
                        · cases hq0
                      · cases hq0
                    · rw [hne q e] at e1
                      exact hT.2.2.2.1 q a' c0 ca n e1 e2 e3 e4 e5 j hj
                  · by_cases e : q = a
                    · subst e
                      rw [haa] at e1
                      rw [e1, v1] at hk'
                      cases hk'
                      rw [q2] at v2
                      cases v2
                    · rw [hne q e] at e1
                      exact hT.2.2.2.2.1 q j b c0 cb n e1 e2 e3 e4 e5
                  · by_cases e : q = a
                    · subst e
                      rw [haa] at e1
                      rw [e1, f1] at hk'
                      cases hk'
                      rw [q2] at f2
                      cases f2
                    · rw [hne q e] at e1
                      exact hT.2.2.2.2.2 q j c0 n e1 e2 e3
              refine ⟨_, hTI, fun q _ => ?_, hS.1, hS.2.1, hS.2.2.1, fun f hf => ?_⟩
              · by_cases e : q = a
                · subst e
                  exact Or.inr ⟨g3, by rw [g4]; exact q4⟩
                · exact Or.inl (hne q e)
              · rcases List.mem_cons.mp hf with rfl | hf
                · exact ⟨[_], sv_evs_cons.mpr ⟨_, _, g3, rfl, rfl⟩, Nat.succ_ne_zero _, Or.inr ⟨a, rfl, sv_lt g5, haa⟩⟩
                · have hf : f ∈ sv_sealf r K k.2.1 (K' + 1) ci' (sv_len k'.2.2.1) S.2.2.2 ++ sv_kps sup [] [] [K] false S.2.2.2 := hf
                  rcases List.mem_append.mp hf with hf | hf
                  · obtain ⟨g, t, x, rfl, h2, h3⟩ := sv_sealf_mem hf
                    obtain ⟨vs, v1, v2⟩ := hS.2.2.2 _ h3
                    obtain ⟨y1, z1, u1, u2, rfl⟩ := sv_evs_cons.mp v1
                    obtain ⟨y2, z2, u3, u4, rfl⟩ := sv_evs_cons.mp u2
                    simp only [sv_evs, Option.some.injEq] at u4
                    subst u4
                    rw [g3] at u1
                    cases u1
                    refine ⟨_, v1, Nat.succ_ne_zero _, ⟨k', hk', q2, q3, by rw [← sv_len_eq]; exact h2⟩, fun q hq => ?_⟩
                    have e : q = a := by omega
                    subst e
                    obtain ⟨-, cell0, v0, x1, x2, x3, x4⟩ := v2.2.2 q rfl
                    exact ⟨haa, cell0, v0, x1, by rw [d2]; exact x2, x3, x4⟩
                  refine sv_kps_ok (g := false) hP (sv_Fr_rf0 (mF := []) (mA := [])) (κ' := sv_up κ a (K' + 1)) ⟨Nat.le_refl _, fun q _ => ?_, fun q c0 hc => ⟨c0, hc, rfl⟩⟩ (fun _ => ⟨rfl, rfl⟩) hS.2.2.2 f hf
                  by_cases e : q = a
                  · subst e
                    exact Or.inr (by rw [g4]; exact List.mem_cons_self)
                  · exact Or.inl (hne q e)
            · simp at h
          · simp at h
      · simp at h
    · simp at h
  · simp at h
end SVX
def sv_Rt (rt : Nat) (ret : Option FieldType) : Prop := match rt with
  | 0 => ret = none
  | 1 => ret = some .int
  | 2 => ret = some .boolean
  | 3 => ret = some .long
  | 4 => ∃ n, ret = some (.object n)
  | _ => ∃ t, ret = some (.array t)
theorem sv_nbool {x : Int32} (h0 : 0 ≤ x.toInt) (h1 : x.toInt ≤ 1) : narrow .boolean (.int x) = .int x := by
  have h : x.toInt = 0 ∨ x.toInt = 1 := by omega
  rcases h with h | h
  · have : x = 0 := Int32.toInt_inj.mp (by rw [h]; decide)
    subst this
    decide
  · have : x = 1 := Int32.toInt_inj.mp (by rw [h]; decide)
    subst this
    decide
section SVZ
variable {p : Program} {l : Launch} {e : Env} {R : Room} {s : State} {m : MethodId} {args : Array Value} {below : List Frame} {meth : Method} {c : Code} {Q : State → Prop}
variable {P : Nat → List Nat → List Int → (Nat → Nat) → Heap → Prop} {D : va_G} {AC : Nat → ClassId} {kd : List SvK} {B0 : Nat} {κ0 : Nat → Nat} {mF mA : List Nat} {Px : List Int → Prop} {nL : Nat} {cc : ByteArray} {pc n : Nat} {w w' : List Nat} {S : SvS} {sup : Nat → List Nat × List Nat}
theorem sv_rok_ok {κ : Nat → Nat} {H : Heap} {locs : List Loc} {ρ : List Int} {ls : Array Slot} {st : List Value} {cells slots rt : Nat} {Qc : Array Value → State → Outcome → State → Prop} {free : Addr → Prop} (hx : p.tables.exec = Jvm.exec) (hb : c.code = cc) (hlk : meth.locks = false) (hrt : sv_Rt rt meth.sig.returnType) {i : Instr} (hd : decode cc pc = .ok (i, n)) (hS : sv_Sat P D kd κ H ρ nL ls st S) (h : sv_rok S rt n i S.2.2.1 w = some w')
    (hq : ∀ (t : State) (o : Option Value), t.heap = H → st = o.toList → Qc args s (.returned o) t) (hf : ∀ q ∈ locs, free q.base) : W p l e R s m args below meth c H locs cells slots (MQ below Qc args s cells slots free) (F0 m pc ls st) := by
  have hst := hS.2.2.1
  unfold sv_rok at h
  split at h
  · rename_i hs
    rw [hs] at hst
    cases hq0 : (Nat.beq rt 0 && Nat.beq n 1) with
    | false => rw [hq0] at h; cases h
    | true =>
      rw [Bool.and_eq_true] at hq0
      have e1 := Nat.eq_of_beq_eq_true hq0.1
      have e2 := Nat.eq_of_beq_eq_true hq0.2
      subst e1; subst e2
      have e3 := sv_StOk_nil hst
      subst e3
      exact W.vret hx hb hrt (fun t ht _ => hq t none ht rfl) hf hd hlk
  · rename_i x hs
    rw [hs] at hst
    cases hq0 : Nat.beq n 1 with
    | false => rw [hq0] at h; cases h
    | true =>
      rw [hq0] at h
      simp only [cond_true] at h
      have e2 := Nat.eq_of_beq_eq_true hq0
      subst e2
      obtain ⟨v1, vs1, rfl, p2, hs1⟩ := sv_StOk_cons hst
      have e3 := sv_StOk_nil hs1
      subst e3
      obtain ⟨y, rfl, p3⟩ := sv_VOk1 p2
      split at h
      · exact W.iret hx hb hrt (fun t ht _ => hq t (some _) ht rfl) hf hd hlk
      · split at h
        · rename_i w1 h1
          have g1 := sv_pos_ok hS p3 h1
          have g2 := sv_pos_ok hS (sv_ev_addc (sv_ev_sc p3)) h
          exact W.zret hx hb hrt (sv_nbool g1 (by omega)) (fun t ht _ => hq t (some _) ht rfl) hf hd hlk
        · simp at h
      · simp at h
  · rename_i x hs
    rw [hs] at hst
    cases hq0 : (Nat.beq rt 3 && Nat.beq n 1) with
    | false => rw [hq0] at h; cases h
    | true =>
      rw [Bool.and_eq_true] at hq0
      have e1 := Nat.eq_of_beq_eq_true hq0.1
      have e2 := Nat.eq_of_beq_eq_true hq0.2
      subst e1; subst e2
      obtain ⟨v1, vs1, rfl, p2, hs1⟩ := sv_StOk_cons hst
      have e3 := sv_StOk_nil hs1
      subst e3
      obtain ⟨y, rfl, p3⟩ := sv_VOk2 p2
      exact W.lret hx hb hrt (fun t ht _ => hq t (some _) ht rfl) hf hd hlk
  · rename_i x hs
    rw [hs] at hst
    cases hq0 : (Nat.ble 4 rt && Nat.beq n 1) with
    | false => rw [hq0] at h; cases h
    | true =>
      rw [Bool.and_eq_true] at hq0
      have e1 := Nat.le_of_ble_eq_true hq0.1
      have e2 := Nat.eq_of_beq_eq_true hq0.2
      subst e2
      obtain ⟨v1, vs1, rfl, p2, hs1⟩ := sv_StOk_cons hst
      have e3 := sv_StOk_nil hs1
      subst e3
      have hv : v1 = .null ∨ ∃ a, v1 = .ref a := by
        rcases sv_VOk3 p2 with ⟨h5, -⟩ | ⟨a, h5, -⟩
        · exact Or.inl h5
        · exact Or.inr ⟨a, h5⟩
      match rt, e1, hrt with
      | 4, _, hrt =>
        obtain ⟨n0, hn⟩ := hrt
        exact W.aret hx hb hn (Or.inl ⟨n0, rfl⟩) hv (fun t ht _ => hq t (some _) ht rfl) hf hd hlk
      | rt + 5, _, hrt =>
        obtain ⟨n0, hn⟩ := hrt
        exact W.aret hx hb hn (Or.inr ⟨n0, rfl⟩) hv (fun t ht _ => hq t (some _) ht rfl) hf hd hlk
  · simp at h
theorem sv_vsF_evs {ρ0 : List Int} : ∀ {τ ρ : List Int} (b : Nat), (∀ j, j < τ.length → sv_nth ρ (b + j) = sv_nth τ j) → sv_evs ρ (sv_vsF b τ.length) = some τ
  | [], _, _, _ => rfl
  | x :: τ, ρ, b, h => sv_evs_cons.mpr ⟨x, τ, sv_ev_v (h 0 (Nat.succ_pos _)), sv_vsF_evs (ρ0 := ρ0) (b + 1) (fun j hj => by
      have := h (j + 1) (Nat.succ_lt_succ hj)
      rw [show b + 1 + j = b + (j + 1) from by omega]
      exact this), rfl⟩
theorem sv_ret_ok (hgk : sv_Gk kd = true) (hP : sv_PF P sup D kd) {tw : List (Nat × Nat)} {sp : SvP} (htw : sv_Tw D tw) (hraw : sv_Raw kd sp.2.2.2.2.2.1) (hth : sv_Th sp) {ρ0 : List Int} {vals : List Value} (hpre : sv_Pre P D AC kd B0 sp κ0 s.heap ρ0 vals) (hPx : ∀ ρ, Px ρ → ∀ j, j < ρ0.length → sv_nth ρ j = sv_nth ρ0 j) {rt : Nat}
    (hx : p.tables.exec = Jvm.exec) (hb : c.code = cc) (hlk : meth.locks = false) (hrt : sv_Rt rt meth.sig.returnType) {i : Instr} (hd : decode cc pc = .ok (i, n)) (h : sv_ret sup kd tw sp rt S i n w = some w') :
    sv_Good p l e R s m args below meth c (MQ below (fun _ _ o t => ∃ v, o = .returned v ∧ sv_Post P D AC kd B0 sp κ0 s.heap ρ0 vals v t.heap) args s sp.2.2.2.2.2.2.2.1 sp.2.2.2.2.2.2.2.2 (sv_free B0 κ0 s.heap.size)) P D AC kd B0 κ0 sp.2.2.2.1 sp.2.2.2.2.1 Px nL S pc := by
  unfold sv_ret at h
  split at h
  · rename_i j7 j8 w1
    split at h
    · rename_i hh h7
      split at h
      · rename_i sl h8
        split at h
        · rename_i w2 hp1
          split at h
          · rename_i w3 hp2
            split at h
            · rename_i w4 hrok
              split at h
              · rename_i S1 k w5 hseal
                split at h
                · rename_i W0 hW0
                  split at h
                  · rename_i es w6 hes
                    cases hq : (sv_wfs (sv_len S.1) es && sv_ans (sv_appl (sv_vsF 0 (sv_len sp.1)) es) W0.2.2 S.2.2.1) with
                    | false => rw [hq] at h; cases h
                    | true =>
                      rw [hq] at h
                      simp only [cond_true] at h
                      rw [Bool.and_eq_true, sv_len_eq] at hq
                      split at h
                      · rename_i w7 hmb
                        intro κ H locs ρ ls st hI hPx0 hS
                        have hj := hPx ρ hPx0
                        obtain ⟨p0, p1, p2, p3, p4⟩ := hpre.2
                        have n0 : sv_nth ρ 0 = some (s.heap.size : Int) := by
                          rw [hj 0 (by rw [sv_nth_eq] at p0; exact (List.getElem?_eq_some_iff.mp p0).1)]
                          exact p0
                        have n1 : sv_nth ρ 1 = some (sv_slots s.heap : Int) := by
                          rw [hj 1 (by rw [sv_nth_eq] at p1; exact (List.getElem?_eq_some_iff.mp p1).1)]
                          exact p1
                        have e7 := sv_f7_ok hS h7
                        have e8 := sv_f8_ok hS h8
                        have g1 := sv_pos_ok hS (sv_ev_addc (sv_ev_sub (sv_ev_v n0) e7)) hp1
                        have g2 := sv_pos_ok hS (sv_ev_addc (sv_ev_sub (sv_ev_v n1) e8)) hp2
                        have g1 : 0 ≤ (s.heap.size : Int) - (H.size : Int) + ((sp.2.2.2.2.2.2.2.1 : Nat) : Int) := g1
                        have g2 : 0 ≤ (sv_slots s.heap : Int) - (sv_slots H : Int) + ((sp.2.2.2.2.2.2.2.2 : Nat) : Int) := g2
                        refine W.widen (by omega) (by omega) (sv_rok_ok hx hb hlk hrt hd hS hrok (fun t o ht ho => ⟨o, rfl, ?_⟩) hI.2.2.2.1)
                        rw [ht]
                        obtain ⟨κ', k1, k2, k3⟩ := sv_seal_ok hgk hP htw hraw hI.1 hS hseal
                        obtain ⟨τ, t1, t2⟩ := sv_mb_ok k3 hmb (sv_wfs_ok hS.1 hq.1)
                        have t3 : sv_evs ρ (sv_appl (sv_vsF 0 (sv_len sp.1)) es) = some (ρ0 ++ τ) := by
                          rw [sv_len_eq, ← p2.1]
                          exact sv_evs_appl (sv_vsF_evs (ρ0 := ρ0) 0 (fun j hj0 => by rw [Nat.zero_add]; exact hj j hj0)) t1
                        refine ⟨κ', k1, ?_, hI.2.2.2.2.1, fun q hq1 => ?_, hI.2.2.2.2.2, W0, List.mem_of_getElem? (by rw [← sv_nth_eq]; exact hW0), τ, ?_, sv_mf_ok k3 t3 h, ?_⟩
                        · exact hI.2.2.1
                        · rcases k2 q (Nat.lt_of_lt_of_le hq1 hI.2.2.2.2.1) with k2 | ⟨k4, k5⟩
                          · exact Or.inl (k2.trans (hI.2.1 q hq1))
                          · refine Or.inr ⟨?_, by rw [← hI.2.1 q hq1]; exact k5⟩
                            obtain ⟨a, as, h9⟩ := hth (fun z => by rw [z] at k5; cases k5)
                            rw [h9] at p3 k4
                            obtain ⟨v, vs, rfl, u1, -⟩ := sv_StOk_cons p3
                            have u2 := sv_ev_agree hj u1.2.2
                            have k4 : sv_ev ρ a = some (q : Int) := k4
                            have u2 : sv_ev ρ a = some (sv_enc v) := u2
                            rw [k4] at u2
                            simp only [Option.some.injEq] at u2
                            rcases sv_val3 u1.1 with ⟨rfl, u3⟩ | ⟨b, rfl, u3⟩
                            · rw [u3] at u2
                              omega
                            · rw [u3] at u2
                              have e9 : b = q := by omega
                              rw [e9]
                              rfl
                        · refine sv_BOk_cut (ρ := []) (b := []) rfl t2 p2
                        · have hst := hS.2.2.1
                          rw [ho] at hst
                          have hq2 := hq.2
                          unfold sv_ans at hq2
                          split at hq2
                          · rename_i h5 h6
                            rw [h6] at hst
                            have h8 := sv_StOk_nil hst
                            rw [h5]
                            cases o with
                            | none => trivial
                            | some v => cases h8
                          · rename_i a b h5 h6
                            rw [h6] at hst
                            obtain ⟨v, vs, h8, h9, h10⟩ := sv_StOk_cons hst
                            cases o with
                            | none => cases h8
                            | some v' =>
                              simp only [Option.toList_some, List.cons.injEq] at h8
                              rw [h5, h8.1]
                              exact sv_mv_ok t3 hq2 h9
                          · cases hq2
                      · simp at h
                  · simp at h
                · simp at h
              · simp at h
            · simp at h
          · simp at h
        · simp at h
      · simp at h
    · simp at h
  · simp at h
end SVZ
