-- ===== reading =====
def sv_ety (cn : Nat → String) : Nat → FieldType
  | 0 => .int
  | 1 => .byte
  | 2 => .boolean
  | 3 => .long
  | 4 => .char
  | n + 5 => .object (cn n)
def sv_lk {α : Type} : List (Nat × α) → Nat → Option α
  | [], _ => none
  | (j, a) :: t, i => bif Nat.beq j i then some a else sv_lk t i
def sv_kf (fs : List SvF) (j : Nat) (r : SvL) : Option Nat := match sv_nth fs j with
  | some (1, [K], [r']) => bif sv_leq r' r then some K else none
  | _ => none
def sv_nonn (b : List SvB) (r : SvL) : Bool := match sv_lb b r with
  | some lo => sv_ge0 lo
  | none => false
def sv_newv (T : SvT) : SvB := bif Nat.beq T.1 3 then (bif T.2.2.2.2 then -1 else 0, none) else (T.2.1, some T.2.2.1)
def sv_rdv (S : SvS) (T : SvT) (rest : List SvA) (f0 : SvL → SvF) : SvS :=
  (S.1 ++ [sv_newv T], S.2.1, (T.1, sv_v S.1.length) :: rest, f0 (sv_v S.1.length) :: (bif Nat.beq T.1 3 then (1, [T.2.2.2.1], [sv_v S.1.length]) :: S.2.2.2 else S.2.2.2))
def sv_tok (T : SvT) : Bool := !(Nat.beq T.1 0) && (bif Nat.beq T.1 3 then !(Nat.beq T.2.2.2.1 0) else true)
/-- getfield: place of the kind's fact, 0 or a fact's place and 1 -/
def sv_gf (lkG : List (Nat × Nat × Nat)) (kd : List SvK) (S : SvS) (idx pc : Nat) (w : List Nat) : Option (List (SvS × Nat) × List Nat) := match S.2.2.1, sv_lk lkG idx, w with
  | (3, r) :: rest, some (ci, f), j :: md :: w1 => match sv_kf S.2.2.2 j r with
    | some K => match sv_nth kd K with
      | some k => match sv_nth k.2.2.1 f with
        | some T => bif sv_nonn S.1 r && Nat.beq k.1 0 && Nat.beq k.2.1 ci && sv_tok T then (match md with
          | 0 => some ([(sv_rdv S T rest (fun x => (3, [K, ci, f, T.1], [r, x])), pc + 3)], w1)
          | i + 1 => match sv_nth S.2.2.2 i with
            | some (3, [K', ci', f', t], [r', e]) => bif Nat.beq K' K && Nat.beq ci' ci && Nat.beq f' f && Nat.beq t T.1 && sv_leq r' r then some ([((S.1, S.2.1, (t, e) :: rest, S.2.2.2), pc + 3)], w1) else none
            | _ => none) else none
        | none => none
      | none => none
    | none => none
  | _, _, _ => none
/-- an array and a place in it: place of the kind's fact, 0 or the place of the length's fact and 1, two certificates -/
def sv_ax (kd : List SvK) (S : SvS) (a i : SvL) (w : List Nat) : Option (Nat × SvK × List Nat) := match w with
  | j :: lm :: w1 => match sv_kf S.2.2.2 j a with
    | some K => match sv_nth kd K with
      | some k => match sv_rcert w1 with
        | some (c1, w2) => match sv_rcert w2 with
          | some (c2, w3) => match (match lm with
            | 0 => some (sv_k (Int.ofNat k.2.2.2.2.1))
            | m + 1 => match sv_nth S.2.2.2 m with
              | some (2, _, [a', n]) => bif sv_leq a' a then some n else none
              | _ => none) with
            | some n => bif sv_nonn S.1 a && Nat.beq k.1 1 && sv_prove S.1 S.2.2.2 c1 i && sv_prove S.1 S.2.2.2 c2 (sv_addc (sv_sub n i) (-1)) then some (K, k, w3) else none
            | none => none
          | none => none
        | none => none
      | none => none
    | none => none
  | _ => none
/-- a load: as sv_ax; 0 or the place of an element's fact and 1 -/
def sv_al (kd : List SvK) (S : SvS) (rest : List SvA) (a i : SvL) (ok : Nat → Bool) (pc : Nat) (w : List Nat) : Option (List (SvS × Nat) × List Nat) := match sv_ax kd S a i w with
  | some (K, k, md :: w1) => match sv_nth k.2.2.1 0 with
    | some T => bif ok k.2.1 && sv_tok T then (match md with
      | 0 => some ([(sv_rdv S T rest (fun x => (4, [K, T.1], [a, i, x])), pc + 1)], w1)
      | m + 1 => match sv_nth S.2.2.2 m with
        | some (4, [K', t], [a', i', e]) => bif Nat.beq K' K && Nat.beq t T.1 && sv_leq a' a && sv_leq i' i then some ([((S.1, S.2.1, (t, e) :: rest, S.2.2.2), pc + 1)], w1) else none
        | _ => none) else none
    | none => none
  | _ => none
def sv_alen (kd : List SvK) (S : SvS) (rest : List SvA) (a : SvL) (pc : Nat) (w : List Nat) : Option (List (SvS × Nat) × List Nat) := match w with
  | j :: md :: w1 => match sv_kf S.2.2.2 j a with
    | some K => match sv_nth kd K with
      | some k => bif sv_nonn S.1 a && Nat.beq k.1 1 && Nat.ble k.2.2.2.2.2.1 2147483647 then (match md with
        | 0 => some ([((S.1 ++ [(Int.ofNat k.2.2.2.2.1, some (Int.ofNat k.2.2.2.2.2.1))], S.2.1, (1, sv_v S.1.length) :: rest, (2, [], [a, sv_v S.1.length]) :: S.2.2.2), pc + 1)], w1)
        | m + 1 => match sv_nth S.2.2.2 m with
          | some (2, _, [a', e]) => bif sv_leq a' a then some ([((S.1, S.2.1, (1, e) :: rest, S.2.2.2), pc + 1)], w1) else none
          | _ => none) else none
      | none => none
    | none => none
  | _ => none
def sv_isr (n : Nat) : Bool := Nat.ble 5 n
def sv_isb (n : Nat) : Bool := Nat.beq n 1 || Nat.beq n 2
def sv_R (lkG : List (Nat × Nat × Nat)) (lkS : List (Nat × Nat)) (lkI : List (Nat × Int)) (lkL : List (Nat × Int)) (kd : List SvK) (S : SvS) (pc : Nat) (i : Instr) (n : Nat) (w : List Nat) : Option (List (SvS × Nat) × List Nat) := match i with
  | .getfield idx => bif Nat.beq n 3 then sv_gf lkG kd S idx pc w else none
  | .iaload => match S.2.2.1 with | (1, i) :: (3, a) :: r => bif Nat.beq n 1 then sv_al kd S r a i (fun e => Nat.beq e 0) pc w else none | _ => none
  | .baload => match S.2.2.1 with | (1, i) :: (3, a) :: r => bif Nat.beq n 1 then sv_al kd S r a i sv_isb pc w else none | _ => none
  | .laload => match S.2.2.1 with | (1, i) :: (3, a) :: r => bif Nat.beq n 1 then sv_al kd S r a i (fun e => Nat.beq e 3) pc w else none | _ => none
  | .caload => match S.2.2.1 with | (1, i) :: (3, a) :: r => bif Nat.beq n 1 then sv_al kd S r a i (fun e => Nat.beq e 4) pc w else none | _ => none
  | .aaload => match S.2.2.1 with | (1, i) :: (3, a) :: r => bif Nat.beq n 1 then sv_al kd S r a i sv_isr pc w else none | _ => none
  | .arraylength => match S.2.2.1 with | (3, a) :: r => bif Nat.beq n 1 then sv_alen kd S r a pc w else none | _ => none
  | .ldc idx => match sv_lk lkI idx with | some v => sv_to S ((1, sv_k v) :: S.2.2.1) n 2 pc w | none => none
  | .ldc_w idx => match sv_lk lkI idx with | some v => sv_to S ((1, sv_k v) :: S.2.2.1) n 3 pc w | none => none
  | .ldc2_w idx => match sv_lk lkL idx with | some v => sv_to S ((2, sv_k v) :: S.2.2.1) n 3 pc w | none => none
  | .getstatic idx => match sv_lk lkS idx with
    | some K => bif Nat.beq n 3 && !(Nat.beq K 0) then some ([((S.1 ++ [(0, none)], S.2.1, (3, sv_v S.1.length) :: S.2.2.1, (1, [K], [sv_v S.1.length]) :: S.2.2.2), pc + 3)], w) else none
    | none => none
  | _ => none
-- what the tables say of the numbers of a class's constant pool
def sv_LkG (s : State) (m : MethodId) (args : Array Value) (D : va_G) (idx ci f : Nat) : Prop :=
  ∃ (own ref name desc : String) (cf fi : Nat) (kf : Class) (fd : Field), s.vm.findClass own = some m.cls ∧ (Cond.fieldLink own idx ref name desc).before args s = true ∧ s.fieldFound? ref name desc = some (cf, kf, fi, fd) ∧ fd.isStatic = false ∧ fd.slot = D.2 ci f
def sv_LkI (s : State) (m : MethodId) (args : Array Value) (idx : Nat) (v : Int) : Prop :=
  ∃ (own : String) (x : Int32), s.vm.findClass own = some m.cls ∧ (Cond.constant own idx x).before args s = true ∧ x.toInt = v
def sv_LkL (s : State) (m : MethodId) (args : Array Value) (idx : Nat) (v : Int) : Prop :=
  ∃ (own : String) (x : Int64), s.vm.findClass own = some m.cls ∧ (Cond.constantLong own idx x).before args s = true ∧ x.toInt = v
/-- a static that nobody writes: its place holds a cell of a kind, in every heap that keeps the cells without a kind -/
def sv_LkS (s : State) (m : MethodId) (args : Array Value) (κ0 : Nat → Nat) (idx K : Nat) : Prop :=
  ∃ (own ref name desc : String) (cf fi : Nat) (kf : Class) (fd : Field) (a0 a : Nat) (cell : Cell), s.vm.findClass own = some m.cls ∧ (Cond.fieldLink own idx ref name desc).before args s = true ∧ s.fieldFound? ref name desc = some (cf, kf, fi, fd) ∧ fd.isStatic = true ∧ kf.init = .initialized ∧ kf.statics = some a0 ∧
    s.heap[a0]? = some cell ∧ κ0 a0 = 0 ∧ cell.vm ≠ .unknown ∧ cell.slots[fd.slot]? = some (.ref a) ∧ a < s.heap.size ∧ κ0 a = K
theorem sv_lk_ok {α : Type} : ∀ {l : List (Nat × α)} {i : Nat} {a : α}, sv_lk l i = some a → (i, a) ∈ l
  | [], i, a, h => by simp [sv_lk] at h
  | (j, b) :: t, i, a, h => by
    simp only [sv_lk] at h
    cases hb : Nat.beq j i with
    | true =>
      rw [hb] at h
      simp only [cond_true, Option.some.injEq] at h
      rw [← h, ← Nat.eq_of_beq_eq_true hb]
      exact List.mem_cons_self
    | false =>
      rw [hb] at h
      exact List.mem_cons_of_mem _ (sv_lk_ok h)
theorem sv_arr {s : State} {cA : ClassId} {ty : FieldType} (h : ArrOfT s cA ty) {cell : Cell} (h1 : cell.cls = cA) (h2 : cell.vm = .none) : s.isArrayOf cell ty := by
  obtain ⟨-, k, hk, hc⟩ := h 0 (fun _ => .null)
  have e1 : ∀ q, cell.vm ≠ .statics q := fun q e => by cases h2.symm.trans e
  have e2 : s.vm.classes[cell.cls]? = some k := by rw [h1]; exact hk
  exact ⟨e1, k, e2, hc⟩
theorem sv_ix {x : Int32} {n : Nat} (h0 : 0 ≤ x.toInt) (h1 : x.toInt < (n : Int)) : ¬ (x < 0 ∨ n ≤ x.toNatClampNeg) := by
  have e : x.toNatClampNeg = x.toInt.toNat := rfl
  rintro (h | h)
  · rw [Int32.lt_iff_toInt_lt, sv_i0] at h
    omega
  · rw [e] at h
    omega
section SVH
variable {P : Nat → List Nat → List Int → (Nat → Nat) → Heap → Prop} {D : va_G} {AC : Nat → ClassId} {kd : List SvK} {B0 : Nat} {κ : Nat → Nat} {H : Heap} {ρ : List Int} {nL : Nat} {ls : Array Slot} {st : List Value} {S : SvS}
theorem sv_kf_ok {fs : List SvF} (hf : ∀ f ∈ fs, sv_FOk P D kd κ H ρ f) {j K : Nat} {r : SvL} {x : Int} (h : sv_kf fs j r = some K) (hx : sv_ev ρ r = some x) : K ≠ 0 ∧ (x = -1 ∨ ∃ q : Nat, x = (q : Int) ∧ q < H.size ∧ κ q = K) := by
  unfold sv_kf at h
  split at h
  · rename_i K' r' hn
    cases hq : sv_leq r' r with
    | false => simp only [hq, cond_false] at h; cases h
    | true =>
      simp only [hq, cond_true, Option.some.injEq] at h
      subst h
      have e := sv_leq_eq hq
      subst e
      obtain ⟨vs, h1, h2⟩ := hf _ (List.mem_of_getElem? (by rw [← sv_nth_eq]; exact hn))
      obtain ⟨y, z, q1, q2, rfl⟩ := sv_evs_cons.mp h1
      rw [hx] at q1
      cases q1
      simp only [sv_evs, Option.some.injEq] at q2
      subst q2
      exact h2
  · simp at h
theorem sv_nonn_ok (hb : sv_BOk ρ S.1) {r : SvL} {x : Int} (h : sv_nonn S.1 r = true) (hx : sv_ev ρ r = some x) : 0 ≤ x := by
  unfold sv_nonn at h
  split at h
  · rename_i lo hl
    have h1 := sv_lb_ok hb hx hl
    have h2 := (sv_ge0_iff lo).mp h
    omega
  · cases h
theorem sv_tok_ok {T : SvT} (h : sv_tok T = true) : T.1 ≠ 0 ∧ (T.1 = 3 → T.2.2.2.1 ≠ 0) := by
  unfold sv_tok at h
  rw [Bool.and_eq_true, Bool.not_eq_true'] at h
  refine ⟨fun e => by rw [e] at h; exact absurd h.1 (by decide), fun e => ?_⟩
  have h2 := h.2
  rw [e] at h2
  intro e2
  rw [e2] at h2
  exact absurd h2 (by decide)
/-- a value of a type comes to the operands -/
theorem sv_rdv_ok {T : SvT} {rest : List SvA} {st' : List Value} {f0 : SvL → SvF} {v : Value} (hS : sv_Sat P D kd κ H ρ nL ls st S) (hr : sv_StOk ρ rest st') (hv : sv_FtOk κ H.size T v) (ht : sv_tok T = true) (hf : sv_FOk P D kd κ H (ρ ++ [sv_enc v]) (f0 (sv_v S.1.length))) :
    sv_Sat P D kd κ H (ρ ++ [sv_enc v]) nL ls (v :: st') (sv_rdv S T rest f0) := by
  obtain ⟨t0, t3⟩ := sv_tok_ok ht
  obtain ⟨v1, v2, v3⟩ := hv
  have e3 := sv_evv hS.1 (sv_enc v)
  obtain ⟨lv, hl1, hl2⟩ := hS.2.1
  have hb : sv_BOk (ρ ++ [sv_enc v]) (S.1 ++ [sv_newv T]) := by
    unfold sv_newv
    cases h3 : Nat.beq T.1 3 with
    | true =>
      have h3 := Nat.eq_of_beq_eq_true h3
      rcases v3 h3 with ⟨rfl, h4⟩ | ⟨a, rfl, -⟩
      · rw [h4]
        exact sv_BOk_add hS.1 (by show (-1 : Int) ≤ -1; omega) (fun h e => by cases e)
      · refine sv_BOk_add hS.1 ?_ (fun h e => by cases e)
        show (bif T.2.2.2.2 then -1 else 0 : Int) ≤ (a : Int)
        cases T.2.2.2.2 <;> simp only [cond_true, cond_false] <;> omega
    | false =>
      have h3 : T.1 ≠ 3 := fun e => by rw [e] at h3; cases h3
      exact sv_BOk_add hS.1 (v2 h3).1 (fun h e => by cases e; exact (v2 h3).2)
  refine ⟨hb, ⟨lv, hl1, sv_LoOk_app hl2⟩, ⟨⟨v1, t0, e3⟩, sv_StOk_app hr⟩, fun f hm => ?_⟩
  rcases List.mem_cons.mp hm with rfl | hm
  · exact hf
  · cases h3 : Nat.beq T.1 3 with
    | false =>
      rw [h3] at hm
      exact sv_FOk_app (hS.2.2.2 f hm)
    | true =>
      rw [h3] at hm
      simp only [cond_true] at hm
      rcases List.mem_cons.mp hm with rfl | hm
      · have h3 := Nat.eq_of_beq_eq_true h3
        refine ⟨[sv_enc v], sv_evs_cons.mpr ⟨_, [], e3, rfl, rfl⟩, t3 h3, ?_⟩
        rcases v3 h3 with ⟨rfl, -⟩ | ⟨a, rfl, h4, h5⟩
        · exact Or.inl rfl
        · exact Or.inr ⟨a, rfl, h4, h5⟩
      · exact sv_FOk_app (hS.2.2.2 f hm)
/-- what sv_ax has shown -/
theorem sv_ax_ok {a i : SvL} {w w' : List Nat} {K : Nat} {k : SvK} {x y : Int} (hT : sv_TI D AC kd B0 κ H) (hS : sv_Sat P D kd κ H ρ nL ls st S) (h : sv_ax kd S a i w = some (K, k, w')) (ha : sv_ev ρ a = some x) (hi : sv_ev ρ i = some y) :
    ∃ (q : Nat) (cell : Cell), x = (q : Int) ∧ κ q = K ∧ K ≠ 0 ∧ sv_nth kd K = some k ∧ k.1 = 1 ∧ H[q]? = some cell ∧ sv_ArOk AC κ H.size k cell ∧ 0 ≤ y ∧ y < (cell.slots.size : Int) := by
  unfold sv_ax at h
  split at h
  · rename_i j lm w1
    split at h
    · rename_i K' hk
      split at h
      · rename_i k' hkd
        split at h
        · rename_i c1 w2 hc1
          split at h
          · rename_i c2 w3 hc2
            split at h
            · rename_i n hn
              cases hq : (sv_nonn S.1 a && Nat.beq k'.1 1 && sv_prove S.1 S.2.2.2 c1 i && sv_prove S.1 S.2.2.2 c2 (sv_addc (sv_sub n i) (-1))) with
              | false => simp only [hq, cond_false] at h; cases h
              | true =>
                simp only [hq, cond_true, Option.some.injEq, Prod.mk.injEq] at h
                obtain ⟨rfl, rfl, -⟩ := h
                simp only [Bool.and_eq_true] at hq
                obtain ⟨⟨⟨q1, q2⟩, q3⟩, q4⟩ := hq
                have q2 := Nat.eq_of_beq_eq_true q2
                have q1 := sv_nonn_ok hS.1 q1 ha
                obtain ⟨k0, g⟩ := sv_kf_ok hS.2.2.2 hk ha
                rcases g with g | ⟨q, rfl, g1, g2⟩
                · omega
                · obtain ⟨k2, cell, g3, g4, g5⟩ := hT.1 q (by rw [g2]; exact k0)
                  rw [g2, hkd] at g3
                  cases g3
                  rcases g5 with ⟨g6, -⟩ | ⟨-, g6⟩
                  · rw [q2] at g6
                    cases g6
                  · refine ⟨q, cell, rfl, g2, k0, hkd, q2, g4, g6, sv_prove_ok hS.1 hS.2.2.2 hi q3, ?_⟩
                    have key : ∃ z, sv_ev ρ n = some z ∧ z ≤ (cell.slots.size : Int) := by
                      split at hn
                      · simp only [Option.some.injEq] at hn
                        subst hn
                        refine ⟨_, sv_ev_k _ _, ?_⟩
                        have := g6.2.2.1
                        show ((k'.2.2.2.2.1 : Nat) : Int) ≤ _
                        omega
                      · rename_i m'
                        split at hn
                        · rename_i z1 a' n' hm
                          cases hq : sv_leq a' a with
                          | false => simp only [hq, cond_false] at hn; cases hn
                          | true =>
                            simp only [hq, cond_true, Option.some.injEq] at hn
                            subst hn
                            have e := sv_leq_eq hq
                            subst e
                            obtain ⟨vs, h1, h2⟩ := hS.2.2.2 _ (List.mem_of_getElem? (by rw [← sv_nth_eq]; exact hm))
                            obtain ⟨y1, z2, p1, p2, rfl⟩ := sv_evs_cons.mp h1
                            obtain ⟨y2, z3, p3, p4, rfl⟩ := sv_evs_cons.mp p2
                            simp only [sv_evs, Option.some.injEq] at p4
                            subst p4
                            rw [ha] at p1
                            cases p1
                            have h2 : ∀ q0 : Nat, (q : Int) = (q0 : Int) → ∃ cell : Cell, H[q0]? = some cell ∧ (cell.slots.size : Int) = y2 := h2
                            obtain ⟨c9, e1, e2⟩ := h2 q rfl
                            rw [g4] at e1
                            cases e1
                            exact ⟨y2, p3, by omega⟩
                        · simp at hn
                    obtain ⟨z, z1, z2⟩ := key
                    have z3 := sv_prove_ok hS.1 hS.2.2.2 (sv_ev_addc (sv_ev_sub z1 hi)) q4
                    omega
            · simp at h
          · simp at h
        · simp at h
      · simp at h
    · simp at h
  · simp at h
end SVH
