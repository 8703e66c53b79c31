-- ===== writing =====
/-- a value has a type: of a reference 0 null | a fact's place and 1; of a number 0 by bounds | 1 two certificates -/
def sv_ty (S : SvS) (t : Nat) (x : SvL) (T : SvT) (w : List Nat) : Option (List Nat) := bif Nat.beq t T.1 then (bif Nat.beq t 3 then (match w with
    | 0 :: w1 => bif T.2.2.2.2 && sv_leq x (sv_k (-1)) then some w1 else none
    | (j + 1) :: w1 => match sv_kf S.2.2.2 j x with
      | some K => bif Nat.beq K T.2.2.2.1 && (T.2.2.2.2 || sv_nonn S.1 x) then some w1 else none
      | none => none
    | [] => none)
  else (match w with
    | 0 :: w1 => bif sv_in S.1 x T.2.1 T.2.2.1 then some w1 else none
    | 1 :: w1 => sv_two S.1 S.2.2.2 x T.2.1 T.2.2.1 w1
    | _ => none)) else none
/-- the value of field g of a cell by the facts -/
def sv_ffd (r : SvL) (K ci g : Nat) : List SvF → Option (Nat × SvL)
  | [] => none
  | (3, [K', ci', g', t], [r', x]) :: l => bif Nat.beq g' g && Nat.beq K' K && Nat.beq ci' ci && sv_leq r' r then some (t, x) else sv_ffd r K ci g l
  | _ :: l => sv_ffd r K ci g l
def sv_lfd (a : SvL) : List SvF → Option SvL
  | [] => none
  | (2, _, [a', n]) :: l => bif sv_leq a' a then some n else sv_lfd a l
  | _ :: l => sv_lfd a l
def sv_men (f : Nat) : List (Nat × Int) → Bool
  | [] => false
  | (u, _) :: t => Nat.beq (Nat.div u 2) f || sv_men f t
def sv_ivx (S : SvS) (r : SvL) (K ci f : Nat) (t0 : Nat) (x0 : SvL) : List (Nat × Int) → Option SvL
  | [] => some (0, [])
  | (u, c) :: l => match (bif Nat.beq (Nat.div u 2) f then some (t0, x0) else sv_ffd r K ci (Nat.div u 2) S.2.2.2) with
    | some (t, x) => match sv_ivx S r K ci f t0 x0 l with
      | some y => bif Nat.beq (Nat.mod u 2) 0 then some (sv_add (sv_sc c x) y) else (bif Nat.beq t 3 && sv_nonn S.1 x then (match sv_lfd x S.2.2.2 with
        | some n => some (sv_add (sv_sc c n) y)
        | none => none) else none)
      | none => none
    | none => none
/-- the rows of a kind that speak of field f hold still -/
def sv_ivc (S : SvS) (r : SvL) (K ci f : Nat) (t0 : Nat) (x0 : SvL) : List SvL → List Nat → Option (List Nat)
  | [], w => some w
  | iv :: l, w => bif sv_men f iv.2 then (match sv_ivx S r K ci f t0 x0 iv.2 with
      | some y => match sv_rcert w with
        | some (c, w1) => bif sv_prove S.1 S.2.2.2 c (sv_addc y iv.1) then sv_ivc S r K ci f t0 x0 l w1 else none
        | none => none
      | none => none) else sv_ivc S r K ci f t0 x0 l w
/-- whether a cell is new since the method began (its address is not below number 0), or the number is among those that may be written: 0 | 1 and a certificate -/
def sv_may (S : SvS) (r : SvL) (id : Nat) (l : List Nat) : List Nat → Option (List Nat)
  | 0 :: w => bif sv_nin id l then some w else none
  | 1 :: w => match sv_rcert w with
    | some (c, w1) => bif sv_prove S.1 S.2.2.2 c (sv_sub r (sv_v 0)) then some w1 else none
    | none => none
  | _ => none
/-- what a field can hold: 0 int | 1 boolean | 2 long | 3 a reference -/
def sv_fb (b : Nat) (T : SvT) : Bool := match b with
  | 0 => Nat.beq T.1 1
  | 1 => Nat.beq T.1 1 && sv_le 0 T.2.1 && sv_le T.2.2.1 1
  | 2 => Nat.beq T.1 2
  | 3 => Nat.beq T.1 3
  | _ => false
/-- putfield: place of the kind's fact; the type; rows; may -/
def sv_pf (sup : Nat → List Nat × List Nat) (mF : List Nat) (lkP : List (Nat × Nat × Nat × Nat)) (kd : List SvK) (S : SvS) (idx pc : Nat) (w : List Nat) : Option (List (SvS × Nat) × List Nat) := match S.2.2.1, sv_lk lkP idx, w with
  | (t, x) :: (3, r) :: rest, some (ci, f, b), j :: w1 => match sv_kf S.2.2.2 j r with
    | some K => match sv_nth kd K with
      | some k => match sv_nth k.2.2.1 f with
        | some T => match sv_ty S t x T w1 with
          | some w2 => match sv_ivc S r K ci f t x k.2.2.2.1 w2 with
            | some w3 => match sv_may S r (256 * ci + f) mF w3 with
              | some w5 => (match sv_gp kd S K f r x w5 with
                | some w4 => bif sv_nonn S.1 r && Nat.beq k.1 0 && Nat.beq k.2.1 ci && sv_tok T && sv_fb b T then
                  some ([((S.1, S.2.1, rest, (3, [K, ci, f, t], [r, x]) :: sv_kps sup [256 * ci + f] [] [] false S.2.2.2), pc + 3)], w4) else none
                | none => none)
              | none => none
            | none => none
          | none => none
        | none => none
      | none => none
    | none => none
  | _, _, _ => none
def sv_fbv (b : Nat) (v : Value) : Prop := match b with
  | 0 => sv_tag v = 1
  | 1 => sv_tag v = 1 ∧ 0 ≤ sv_enc v ∧ sv_enc v ≤ 1
  | 2 => sv_tag v = 2
  | _ => sv_tag v = 3
def sv_LkP (s : State) (m : MethodId) (meth : Method) (args : Array Value) (D : va_G) (idx ci f b : Nat) : Prop :=
  ∃ (own ref name desc : String) (cf fi : Nat) (kf : Class) (fd : Field), s.vm.findClass own = some m.cls ∧ (Cond.fieldLink own idx ref name desc).before args s = true ∧ s.fieldFound? ref name desc = some (cf, kf, fi, fd) ∧ fd.isStatic = false ∧ fd.slot = D.2 ci f ∧
    (hasFlag fd.accessFlags Acc.final = false ∨ (m.cls = cf ∧ meth.name = "<init>")) ∧
    ∀ v : Value, sv_fbv b v → narrow fd.type v = v ∧ s.fitsSlot (D.1 ci) .none fd.slot v = true
theorem sv_fb_ok {b : Nat} {T : SvT} (h : sv_fb b T = true) {κ : Nat → Nat} {z : Nat} {v : Value} (hv : sv_FtOk κ z T v) : sv_fbv b v := by
  obtain ⟨h1, h2, -⟩ := hv
  unfold sv_fb at h
  split at h
  · exact h1.trans (Nat.eq_of_beq_eq_true h)
  · simp only [Bool.and_eq_true, sv_le_iff] at h
    have e := Nat.eq_of_beq_eq_true h.1.1
    have h3 := h2 (by rw [e]; decide)
    exact ⟨h1.trans e, by omega, by omega⟩
  · exact h1.trans (Nat.eq_of_beq_eq_true h)
  · exact h1.trans (Nat.eq_of_beq_eq_true h)
  · cases h
section SVJ
variable {P : Nat → List Nat → List Int → (Nat → Nat) → Heap → Prop} {D : va_G} {AC : Nat → ClassId} {kd : List SvK} {B0 : Nat} {κ : Nat → Nat} {H H' : Heap} {ρ : List Int} {nL : Nat} {ls : Array Slot} {st : List Value} {S : SvS}
theorem sv_ty_ok {t : Nat} {x : SvL} {T : SvT} {w w' : List Nat} {v : Value} (hS : sv_Sat P D kd κ H ρ nL ls st S) (h : sv_ty S t x T w = some w') (hv : sv_VOk ρ (t, x) v) : sv_FtOk κ H.size T v := by
  obtain ⟨v1, v2, v3⟩ := hv
  unfold sv_ty at h
  cases hq : Nat.beq t T.1 with
  | false => simp only [hq, cond_false] at h; cases h
  | true =>
    simp only [hq, cond_true] at h
    have e1 := Nat.eq_of_beq_eq_true hq
    cases h3 : Nat.beq t 3 with
    | true =>
      simp only [h3, cond_true] at h
      have e3 := Nat.eq_of_beq_eq_true h3
      have e4 : T.1 = 3 := by rw [← e1]; exact e3
      refine ⟨v1.trans e1, fun q => absurd e4 q, fun _ => ?_⟩
      split at h
      · rename_i w1
        cases hn : (T.2.2.2.2 && sv_leq x (sv_k (-1))) with
        | false => simp only [hn, cond_false] at h; cases h
        | true =>
          rw [Bool.and_eq_true] at hn
          have e5 := sv_leq_eq hn.2
          have v3 : sv_ev ρ x = some (sv_enc v) := v3
          rw [e5, sv_ev_k] at v3
          simp only [Option.some.injEq] at v3
          have v1 : sv_tag v = 3 := v1.trans e3
          rcases sv_val3 v1 with ⟨rfl, -⟩ | ⟨a, rfl, e6⟩
          · exact Or.inl ⟨rfl, hn.1⟩
          · rw [e6] at v3
            omega
      · rename_i j w1
        split at h
        · rename_i K hk
          cases hn : (Nat.beq K T.2.2.2.1 && (T.2.2.2.2 || sv_nonn S.1 x)) with
          | false => simp only [hn, cond_false] at h; cases h
          | true =>
            rw [Bool.and_eq_true, Bool.or_eq_true] at hn
            have e5 := Nat.eq_of_beq_eq_true hn.1
            obtain ⟨k0, g⟩ := sv_kf_ok hS.2.2.2 hk v3
            have v1 : sv_tag v = 3 := v1.trans e3
            rcases sv_val3 v1 with ⟨rfl, e6⟩ | ⟨a, rfl, e6⟩
            · rcases hn.2 with h5 | h5
              · exact Or.inl ⟨rfl, h5⟩
              · have := sv_nonn_ok hS.1 h5 v3
                rw [e6] at this
                omega
            · rw [e6] at g
              rcases g with g | ⟨q, g1, g2, g3⟩
              · omega
              · have e7 : a = q := by omega
                subst e7
                exact Or.inr ⟨a, rfl, g2, by rw [← e5]; exact g3⟩
        · simp at h
      · simp at h
    | false =>
      simp only [h3, cond_false] at h
      have e3 : T.1 ≠ 3 := fun e => by rw [e1, e] at h3; cases h3
      refine ⟨v1.trans e1, fun _ => ?_, fun q => absurd q e3⟩
      split at h
      · cases hn : sv_in S.1 x T.2.1 T.2.2.1 with
        | false => simp only [hn, cond_false] at h; cases h
        | true => exact sv_in_ok hS.1 v3 hn
      · exact sv_two_ok hS.1 hS.2.2.2 v3 h
      · simp at h
theorem sv_ffd_ok {r : SvL} {K ci g t : Nat} {x : SvL} : ∀ {fs : List SvF}, sv_ffd r K ci g fs = some (t, x) → (3, [K, ci, g, t], [r, x]) ∈ fs
  | [], h => by simp [sv_ffd] at h
  | f :: l, h => by
    unfold sv_ffd at h
    split at h
    · rename_i e1; cases e1
    · rename_i K' ci' g' t' r' x' l' e1
      cases e1
      cases hq : (Nat.beq g' g && Nat.beq K' K && Nat.beq ci' ci && sv_leq r' r) with
      | true =>
        simp only [hq, cond_true, Option.some.injEq, Prod.mk.injEq] at h
        obtain ⟨rfl, rfl⟩ := h
        simp only [Bool.and_eq_true] at hq
        obtain ⟨⟨⟨q1, q2⟩, q3⟩, q4⟩ := hq
        rw [Nat.eq_of_beq_eq_true q1, Nat.eq_of_beq_eq_true q2, Nat.eq_of_beq_eq_true q3, sv_leq_eq q4]
        exact List.mem_cons_self
      | false =>
        simp only [hq, cond_false] at h
        exact List.mem_cons_of_mem _ (sv_ffd_ok h)
    · rename_i f' l' hne e1
      cases e1
      exact List.mem_cons_of_mem _ (sv_ffd_ok h)
theorem sv_lfd_ok {a n : SvL} : ∀ {fs : List SvF}, sv_lfd a fs = some n → ∃ b, (2, b, [a, n]) ∈ fs
  | [], h => by simp [sv_lfd] at h
  | f :: l, h => by
    unfold sv_lfd at h
    split at h
    · rename_i e1; cases e1
    · rename_i b a' n' l' e1
      cases e1
      cases hq : sv_leq a' a with
      | true =>
        simp only [hq, cond_true, Option.some.injEq] at h
        subst h
        rw [← sv_leq_eq hq]
        exact ⟨b, List.mem_cons_self⟩
      | false =>
        simp only [hq, cond_false] at h
        obtain ⟨b2, h2⟩ := sv_lfd_ok h
        exact ⟨b2, List.mem_cons_of_mem _ h2⟩
    · rename_i f' l' hne e1
      cases e1
      obtain ⟨b2, h2⟩ := sv_lfd_ok h
      exact ⟨b2, List.mem_cons_of_mem _ h2⟩
theorem sv_men_no {f : Nat} : ∀ {t : List (Nat × Int)}, sv_men f t = false → ∀ x ∈ t, x.1 / 2 ≠ f
  | [], _, x, hx => by cases hx
  | (u, c) :: t, h, x, hx => by
    simp only [sv_men, Bool.or_eq_false_iff] at h
    rcases List.mem_cons.mp hx with rfl | hx
    · intro e
      have h1 : Nat.beq (u / 2) f = false := h.1
      have e : u / 2 = f := e
      rw [e, Nat.beq_refl] at h1
      cases h1
    · exact sv_men_no h.2 x hx
theorem sv_ivx_ok (hap : sv_Ap D kd) (hS : sv_Sat P D kd κ H ρ nL ls st S) {r : SvL} {K ci f t0 a : Nat} {x0 : SvL} {cell : Cell} {k : SvK} {v : Value} (hk : sv_nth kd K = some k) (h0 : k.1 = 0) (hci : k.2.1 = ci) (hra : sv_ev ρ r = some (a : Int)) (hf : f < k.2.2.1.length) (hst : sv_St H H' a (D.2 ci f) cell v) (hv : sv_VOk ρ (t0, x0) v) :
    ∀ {l : List (Nat × Int)} {y : SvL}, (∀ x ∈ l, x.1 / 2 < k.2.2.1.length) → sv_ivx S r K ci f t0 x0 l = some y → sv_ev ρ y = some (sv_ivT D H' ci (cell.setSlot (D.2 ci f) v) l)
  | [], y, _, h => by
    simp only [sv_ivx, Option.some.injEq] at h
    subst h
    rfl
  | (u, c) :: l, y, hl, h => by
    have hu : u / 2 < k.2.2.1.length := hl _ List.mem_cons_self
    unfold sv_ivx at h
    split at h
    · rename_i t x hx
      split at h
      · rename_i y1 hy1
        have ih := sv_ivx_ok hap hS hk h0 hci hra hf hst hv (fun z hz => hl z (List.mem_cons_of_mem _ hz)) hy1
        -- the value at u / 2 in the cell that is written
        have key : ∃ w, (cell.setSlot (D.2 ci f) v).slots[D.2 ci (u / 2)]? = some w ∧ sv_tag w = t ∧ sv_ev ρ x = some (sv_enc w) := by
          rw [sv_setSlot_get _ _ _ _ hst.2.1]
          cases hq : Nat.beq (Nat.div u 2) f with
          | true =>
            rw [hq] at hx
            simp only [cond_true, Option.some.injEq, Prod.mk.injEq] at hx
            obtain ⟨rfl, rfl⟩ := hx
            have e : u / 2 = f := Nat.eq_of_beq_eq_true hq
            rw [e, if_pos rfl]
            exact ⟨v, rfl, hv.1, hv.2.2⟩
          | false =>
            rw [hq] at hx
            simp only [cond_false] at hx
            have e : f ≠ u / 2 := fun e => by
              have hq : Nat.beq (u / 2) f = false := hq
              rw [← e, Nat.beq_refl] at hq
              cases hq
            have hne : D.2 ci f ≠ D.2 ci (u / 2) := by
              rw [← hci]
              exact hap K k hk h0 f (u / 2) hf hu e
            rw [if_neg hne]
            obtain ⟨vs, f1, f2⟩ := hS.2.2.2 _ (sv_ffd_ok hx)
            obtain ⟨y1, z1, f3, f4, rfl⟩ := sv_evs_cons.mp f1
            obtain ⟨y2, z2, f5, f6, rfl⟩ := sv_evs_cons.mp f4
            simp only [sv_evs, Option.some.injEq] at f6
            subst f6
            obtain ⟨-, -, f7⟩ := f2
            rw [hra] at f3
            cases f3
            obtain ⟨-, c2, v2, f8, f9, f10, f11⟩ := f7 a rfl
            rw [hst.1] at f8
            cases f8
            exact ⟨v2, f9, f10, by rw [f11]; exact f5⟩
        obtain ⟨w, w1, w2, w3⟩ := key
        cases hq : Nat.beq (Nat.mod u 2) 0 with
        | true =>
          rw [hq] at h
          simp only [cond_true, Option.some.injEq] at h
          subst h
          have e : u % 2 = 0 := Nat.eq_of_beq_eq_true hq
          rw [sv_ev_add (sv_ev_sc w3) ih]
          simp only [sv_ivT, sv_cv, w1, if_pos e]
        | false =>
          rw [hq] at h
          simp only [cond_false] at h
          have e : ¬ u % 2 = 0 := fun e => by
            have hq : Nat.beq (u % 2) 0 = false := hq
            rw [e] at hq
            cases hq
          cases hn : (Nat.beq t 3 && sv_nonn S.1 x) with
          | false => rw [hn] at h; cases h
          | true =>
            rw [hn] at h
            simp only [cond_true] at h
            rw [Bool.and_eq_true] at hn
            have e3 := Nat.eq_of_beq_eq_true hn.1
            have e4 := sv_nonn_ok hS.1 hn.2 w3
            split at h
            · rename_i n hlf
              simp only [Option.some.injEq] at h
              subst h
              rw [e3] at w2
              rcases sv_val3 w2 with ⟨rfl, e5⟩ | ⟨b, rfl, e5⟩
              · omega
              · obtain ⟨z0, hm⟩ := sv_lfd_ok hlf
                obtain ⟨vs, f1, f2⟩ := hS.2.2.2 _ hm
                obtain ⟨y3, z1, f3, f4, rfl⟩ := sv_evs_cons.mp f1
                obtain ⟨y2, z2, f5, f6, rfl⟩ := sv_evs_cons.mp f4
                simp only [sv_evs, Option.some.injEq] at f6
                subst f6
                have f2 : ∀ q0 : Nat, y3 = (q0 : Int) → ∃ cell : Cell, H[q0]? = some cell ∧ (cell.slots.size : Int) = y2 := f2
                rw [w3, e5] at f3
                cases f3
                obtain ⟨c2, f7, f8⟩ := f2 b rfl
                obtain ⟨c3, f9, -, -, f10⟩ := sv_St_cell hst f7
                rw [sv_ev_add (sv_ev_sc f5) ih]
                simp only [sv_ivT, sv_cv, w1, if_neg e, f9]
                rw [f10, f8]
            · simp at h
      · simp at h
    · simp at h
theorem sv_ivc_ok (hap : sv_Ap D kd) (hS : sv_Sat P D kd κ H ρ nL ls st S) {r : SvL} {K ci f t0 a : Nat} {x0 : SvL} {cell : Cell} {k : SvK} {v : Value} (hk : sv_nth kd K = some k) (h0 : k.1 = 0) (hci : k.2.1 = ci) (hra : sv_ev ρ r = some (a : Int)) (hf : f < k.2.2.1.length) (hst : sv_St H H' a (D.2 ci f) cell v) (hv : sv_VOk ρ (t0, x0) v) :
    ∀ {l : List SvL} {w w' : List Nat}, (∀ iv ∈ l, ∀ x ∈ iv.2, x.1 / 2 < k.2.2.1.length) → sv_ivc S r K ci f t0 x0 l w = some w' → ∀ iv ∈ l, (∀ x ∈ iv.2, x.1 / 2 ≠ f) ∨ 0 ≤ iv.1 + sv_ivT D H' ci (cell.setSlot (D.2 ci f) v) iv.2
  | [], w, w', _, _, iv, hi => by cases hi
  | i1 :: l, w, w', hl, h, iv, hi => by
    unfold sv_ivc at h
    cases hm : sv_men f i1.2 with
    | false =>
      rw [hm] at h
      simp only [cond_false] at h
      rcases List.mem_cons.mp hi with rfl | hi
      · exact Or.inl (sv_men_no hm)
      · exact sv_ivc_ok hap hS hk h0 hci hra hf hst hv (fun z hz => hl z (List.mem_cons_of_mem _ hz)) h iv hi
    | true =>
      rw [hm] at h
      simp only [cond_true] at h
      split at h
      · rename_i y hy
        split at h
        · rename_i c w1 hc
          cases hp : sv_prove S.1 S.2.2.2 c (sv_addc y i1.1) with
          | false => rw [hp] at h; cases h
          | true =>
            rw [hp] at h
            simp only [cond_true] at h
            rcases List.mem_cons.mp hi with rfl | hi
            · refine Or.inr ?_
              have e1 := sv_ivx_ok hap hS hk h0 hci hra hf hst hv (hl _ List.mem_cons_self) hy
              have e2 := sv_prove_ok hS.1 hS.2.2.2 (sv_ev_addc e1) hp
              omega
            · exact sv_ivc_ok hap hS hk h0 hci hra hf hst hv (fun z hz => hl z (List.mem_cons_of_mem _ hz)) h iv hi
        · simp at h
      · simp at h
theorem sv_may_ok (hS : sv_Sat P D kd κ H ρ nL ls st S) {r : SvL} {a id h0 : Nat} {l w w' : List Nat} (h : sv_may S r id l w = some w') (hra : sv_ev ρ r = some (a : Int)) (h00 : sv_nth ρ 0 = some (h0 : Int)) : id ∈ l ∨ h0 ≤ a := by
  unfold sv_may at h
  split at h
  · cases hn : sv_nin id l with
    | false => rw [hn] at h; cases h
    | true => exact Or.inl (sv_nin_mem hn)
  · split at h
    · rename_i c w1 hc
      cases hp : sv_prove S.1 S.2.2.2 c (sv_sub r (sv_v 0)) with
      | false => rw [hp] at h; cases h
      | true =>
        have e2 := sv_prove_ok hS.1 hS.2.2.2 (sv_ev_sub hra (sv_ev_v h00)) hp
        exact Or.inr (by omega)
    · simp at h
  · simp at h
end SVJ
section SVK
variable {p : Program} {l : Launch} {e : Env} {R : Room} {s : State} {m : MethodId} {args : Array Value} {below : List Frame} {meth : Method} {c : Code} {Q : State → Prop}
variable {P : Nat → List Nat → List Int → (Nat → Nat) → Heap → Prop} {D : va_G} {AC : Nat → ClassId} {kd : List SvK} {B0 : Nat} {κ0 : Nat → Nat} {mF mA : List Nat} {Px : List Int → Prop} {nL : Nat} {cc : ByteArray} {pc n : Nat} {w w' : List Nat} {S : SvS} {r : List (SvS × Nat)} {sup : Nat → List Nat × List Nat}
/-- a store keeps what a method's walk carries -/
theorem sv_Inv_st {κ : Nat → Nat} {H H' : Heap} {locs : List Loc} {a i : Nat} {cell : Cell} {v : Value} {fF fA : List Nat} (hI : sv_Inv s D AC kd B0 κ0 mF mA κ H locs) (hT : sv_TI D AC kd B0 κ H') (hst : sv_St H H' a i cell v) (hka : κ a ≠ 0) (hB : B0 ≤ a)
    (hfr : ∀ (q : Nat) (c : Cell), H[q]? = some c → ∃ c', H'[q]? = some c' ∧ sv_FrC D kd fF fA (κ q) c c') (hmay : ((∀ x ∈ fF, x ∈ mF) ∧ ∀ x ∈ fA, x ∈ mA) ∨ s.heap.size ≤ a) : sv_Inv s D AC kd B0 κ0 mF mA κ H' (locs ++ [⟨a, i⟩]) := by
  obtain ⟨-, h2, h3, h4, h5, h6⟩ := hI
  refine ⟨hT, h2, sv_Fr_tr h3 (fun q c hq hc => ?_), fun x hx => ?_, by rw [hst.2.2.2.1]; exact h5, by rw [sv_St_slots hst]; exact h6⟩
  · rcases hmay with ⟨m1, m2⟩ | hmay
    · obtain ⟨c', e1, e2⟩ := hfr q c hc
      rw [h2 q hq] at e2
      exact ⟨c', e1, sv_FrC_wk e2 m1 m2⟩
    · exact ⟨c, by rw [hst.2.2.2.2 q (by omega)]; exact hc, sv_FrC_rf⟩
  · rcases List.mem_append.mp hx with hx | hx
    · exact h4 x hx
    · rw [List.mem_singleton] at hx
      subst hx
      by_cases hlt : a < s.heap.size
      · exact Or.inl ⟨hB, by rw [← h2 a hlt]; exact hka⟩
      · exact Or.inr (Nat.le_of_not_lt hlt)
theorem sv_pf_ok (hP : sv_PF P sup D kd) (hiv : sv_ivs kd) (hap : sv_Ap D kd) (h00 : ∀ ρ, Px ρ → sv_nth ρ 0 = some (s.heap.size : Int)) (hx : p.tables.exec = Jvm.exec) (hb : c.code = cc) {lkP : List (Nat × Nat × Nat × Nat)} (hLP : ∀ idx ci f b, (idx, (ci, f, b)) ∈ lkP → sv_LkP s m meth args D idx ci f b) {idx : Nat} (hd : decode cc pc = .ok (.putfield idx, 3)) (h : sv_pf sup mF lkP kd S idx pc w = some (r, w')) (hk : ∀ q ∈ r, sv_Good p l e R s m args below meth c Q P D AC kd B0 κ0 mF mA Px nL q.1 q.2) : sv_Good p l e R s m args below meth c Q P D AC kd B0 κ0 mF mA Px nL S pc := by
  unfold sv_pf at h
  split at h
  · rename_i t x ra rest ci f b j w1 hst hlk
    obtain ⟨own, ref, name, desc, cf, fi, kf, fd, l1, l2, l3, l4, l5, l6, l7⟩ := hLP _ _ _ _ (sv_lk_ok hlk)
    split at h
    · rename_i K hkf
      split at h
      · rename_i k hkd
        split at h
        · rename_i T hT
          split at h
          · rename_i w2 hty
            split at h
            · rename_i w3 hivc
              split at h
              · rename_i w5 hmay
                split at h
                case h_2 => simp at h
                rename_i w4 hgp
                cases hq : (sv_nonn S.1 ra && Nat.beq k.1 0 && Nat.beq k.2.1 ci && sv_tok T && sv_fb b T) with
                | false => simp only [hq, cond_false] at h; cases h
                | true =>
                  simp only [hq, cond_true, Option.some.injEq, Prod.mk.injEq] at h
                  obtain ⟨rfl, -⟩ := h
                  simp only [Bool.and_eq_true] at hq
                  obtain ⟨⟨⟨⟨q1, q2⟩, q3⟩, q4⟩, q5⟩ := hq
                  have q2 := Nat.eq_of_beq_eq_true q2
                  have q3 := Nat.eq_of_beq_eq_true q3
                  subst q3
                  have hlt : f < k.2.2.1.length := by
                    rw [sv_nth_eq] at hT
                    exact (List.getElem?_eq_some_iff.mp hT).1
                  intro κ H locs ρ ls st hI hPx hS
                  have hs := hS.2.2.1
                  rw [hst] at hs
                  obtain ⟨v1, vs1, rfl, p1, hs1⟩ := sv_StOk_cons hs
                  obtain ⟨v2, vs2, rfl, p2, hs2⟩ := sv_StOk_cons hs1
                  have hz : ∃ x, sv_ev ρ ra = some x := ⟨_, p2.2.2⟩
                  obtain ⟨x0, hx1⟩ := hz
                  have hnn := sv_nonn_ok hS.1 q1 hx1
                  obtain ⟨k0, g⟩ := sv_kf_ok hS.2.2.2 hkf hx1
                  rcases g with g | ⟨q, rfl, g1, g2⟩
                  · omega
                  · rcases sv_VOk3 p2 with ⟨rfl, p3⟩ | ⟨a, rfl, p3⟩
                    · rw [hx1] at p3
                      simp only [Option.some.injEq] at p3
                      omega
                    · rw [hx1] at p3
                      simp only [Option.some.injEq] at p3
                      have e1 : q = a := by omega
                      subst e1
                      have hka : κ q ≠ 0 := by rw [g2]; exact k0
                      obtain ⟨k2, cell, g3, g4, g5⟩ := hI.1.1 q hka
                      have g3' := g3
                      rw [g2, hkd] at g3
                      cases g3
                      have hft := sv_ty_ok hS hty p1
                      rcases g5 with ⟨-, g6, g7, g8, g9⟩ | ⟨g6, -⟩
                      · obtain ⟨vo, g10, -⟩ := g8 f T hT
                        have hsl : D.2 k.2.1 f < cell.slots.size := (Array.getElem?_eq_some_iff.mp g10).1
                        obtain ⟨n1, n2⟩ := l7 v1 (sv_fb_ok q5 hft)
                        refine W.putf hx hb l1 l2 l3 l4 l6 g4 (by rw [g7]; exact fun z => by cases z) (by rw [l5]; exact hsl) n1 (by rw [g6, g7]; exact n2) rfl rfl hd ?_
                        rw [l5]
                        have hH : sv_St H (H.setIfInBounds q (cell.setSlot (D.2 k.2.1 f) v1)) q (D.2 k.2.1 f) cell v1 := by
                          refine ⟨g4, hsl, ?_, by simp, fun q' hq' => ?_⟩
                          · rw [Array.getElem?_setIfInBounds, if_pos rfl, if_pos (sv_lt g4)]
                          · rw [Array.getElem?_setIfInBounds, if_neg (Ne.symm hq')]
                        generalize H.setIfInBounds q (cell.setSlot (D.2 k.2.1 f) v1) = H' at hH ⊢
                        have hin := sv_ivc_ok hap hS hkd q2 rfl hx1 hlt hH p1 (hiv.1 K k hkd) hivc
                        have hT' := sv_TI_put hiv hap hI.1 hka g3' q2 hT hft hH hin (sv_gp_ok hI.1 hS hgp hx1 g2 g4 p1.2.2)
                        have hfr : ∀ (q' : Nat) (c : Cell), H[q']? = some c → ∃ c', H'[q']? = some c' ∧ sv_FrC D kd [256 * k.2.1 + f] [] (κ q') c c' := fun q' c hc => sv_St_frF hap g3' q2 hlt hka hH hc
                        have hB : B0 ≤ q := by
                          by_cases hb0 : q < B0
                          · have := (hI.1.2.1 q k hb0 hka g3').1
                            rw [q2] at this
                            cases this
                          · omega
                        have hmay' := sv_may_ok hS hmay hx1 (h00 ρ hPx)
                        have hI' := sv_Inv_st hI hT' hH hka hB hfr (by
                          rcases hmay' with h1 | h1
                          · exact Or.inl ⟨fun x hx => by rw [List.mem_singleton] at hx; rw [hx]; exact h1, fun x hx => by cases hx⟩
                          · exact Or.inr h1)
                        have hfs := sv_kps_ok (rw := []) (g := false) hP hfr (sv_St_mv hH κ) (fun _ => ⟨hH.2.2.2.1, sv_St_slots hH⟩) hS.2.2.2
                        have hz1 : H'.size = H.size := hH.2.2.2.1
                        have hz2 : sv_slots H' = sv_slots H := sv_St_slots hH
                        have := hk _ List.mem_cons_self κ H' _ ρ ls vs2 hI' hPx ⟨hS.1, hS.2.1, hs2, fun f' hf' => ?_⟩
                        · rw [hz1, hz2] at this
                          exact this
                        · rcases List.mem_cons.mp hf' with rfl | hf'
                          · refine ⟨[_, _], sv_evs_cons.mpr ⟨_, _, hx1, sv_evs_cons.mpr ⟨_, _, p1.2.2, rfl, rfl⟩, rfl⟩, k0, ⟨k, hkd, q2, rfl, hlt⟩, fun q' hq' => ?_⟩
                            have e1 : q = q' := by omega
                            subst e1
                            refine ⟨g2, _, v1, hH.2.2.1, ?_, p1.1, rfl⟩
                            rw [sv_setSlot_get _ _ _ _ hsl, if_pos rfl]
                          · exact hfs f' hf'
                      · rw [q2] at g6
                        cases g6
              · simp at h
            · simp at h
          · simp at h
        · simp at h
      · simp at h
    · simp at h
  · simp at h
end SVK
