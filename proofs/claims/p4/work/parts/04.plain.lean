-- ===== the machine at a state of the checker =====
/-- what of an old cell a method may change: fields (256 times the description, and the field) and kinds of arrays -/
def sv_Fr (D : va_G) (kd : List SvK) (mF mA : List Nat) (κ : Nat → Nat) (H0 H : Heap) : Prop :=
  ∀ (q : Nat) (c : Cell), H0[q]? = some c → ∃ c' : Cell, H[q]? = some c' ∧ c'.cls = c.cls ∧ c'.vm = c.vm ∧ c'.slots.size = c.slots.size ∧ (κ q = 0 → c' = c) ∧
    ∀ K, sv_nth kd (κ q) = some K → (K.1 = 0 → ∀ f, f < K.2.2.1.length → 256 * K.2.1 + f ∉ mF → c'.slots[D.2 K.2.1 f]? = c.slots[D.2 K.2.1 f]?) ∧ (K.1 = 1 → κ q ∉ mA → c'.slots = c.slots)
def sv_free (B0 : Nat) (κ0 : Nat → Nat) (h0 : Nat) : Nat → Prop := fun q => (B0 ≤ q ∧ κ0 q ≠ 0) ∨ h0 ≤ q
def sv_Inv (s : State) (D : va_G) (AC : Nat → ClassId) (kd : List SvK) (B0 : Nat) (κ0 : Nat → Nat) (mF mA : List Nat) (κ : Nat → Nat) (H : Heap) (locs : List Loc) : Prop :=
  sv_TI D AC kd B0 κ H ∧ (∀ q, q < s.heap.size → κ q = κ0 q) ∧ sv_Fr D kd mF mA κ0 s.heap H ∧ (∀ x ∈ locs, sv_free B0 κ0 s.heap.size x.base) ∧ s.heap.size ≤ H.size ∧ sv_slots s.heap ≤ sv_slots H
def sv_Good (p : Program) (l : Launch) (e : Env) (R : Room) (s : State) (m : MethodId) (args : Array Value) (below : List Frame) (meth : Method) (c : Code) (Q : State → Prop)
    (P : Nat → List Nat → List Int → (Nat → Nat) → Heap → Prop) (D : va_G) (AC : Nat → ClassId) (kd : List SvK) (B0 : Nat) (κ0 : Nat → Nat) (mF mA : List Nat) (Px : List Int → Prop) (nL : Nat) (S : SvS) (pc : Nat) : Prop :=
  ∀ (κ : Nat → Nat) (H : Heap) (locs : List Loc) (ρ : List Int) (ls : Array Slot) (st : List Value), sv_Inv s D AC kd B0 κ0 mF mA κ H locs → Px ρ → sv_Sat P D kd κ H ρ nL ls st S →
    W p l e R s m args below meth c H locs (H.size - s.heap.size) (sv_slots H - sv_slots s.heap) Q (F0 m pc ls st)
def sv_get : List (Nat × SvA) → Nat → Option SvA
  | [], _ => none
  | (j, a) :: t, i => bif Nat.beq j i then some a else sv_get t i
def sv_fl (i : Nat) (two : Bool) : List (Nat × SvA) → List (Nat × SvA)
  | [] => []
  | (j, a) :: t => bif Nat.beq j i || ((two && Nat.beq j (i + 1)) || (Nat.beq (j + 1) i && Nat.beq a.1 2)) then sv_fl i two t else (j, a) :: sv_fl i two t
def sv_ld (S : SvS) (t i n pc : Nat) (w : List Nat) : Option (List (SvS × Nat) × List Nat) := match sv_get S.2.1 i with
  | some a => bif Nat.beq a.1 t then some ([((S.1, S.2.1, a :: S.2.2.1, S.2.2.2), pc + n)], w) else none
  | none => none
def sv_sto (nL : Nat) (S : SvS) (t i n pc : Nat) (w : List Nat) : Option (List (SvS × Nat) × List Nat) := match S.2.2.1 with
  | a :: r => bif Nat.beq a.1 t && (bif Nat.beq t 2 then Nat.blt (i + 1) nL else Nat.blt i nL) then some ([((S.1, (i, a) :: sv_fl i (Nat.beq t 2) S.2.1, r, S.2.2.2), pc + n)], w) else none
  | [] => none
def sv_to (S : SvS) (st : List SvA) (n k pc : Nat) (w : List Nat) : Option (List (SvS × Nat) × List Nat) := bif Nat.beq n k then some ([((S.1, S.2.1, st, S.2.2.2), pc + k)], w) else none
/-- loads, stores, constants, the pile -/
def sv_A (nL : Nat) (S : SvS) (pc : Nat) (i : Instr) (n : Nat) (w : List Nat) : Option (List (SvS × Nat) × List Nat) := match i with
  | .iconst k => bif sv_le (-1) k && sv_le k 5 then sv_to S ((1, sv_k k) :: S.2.2.1) n 1 pc w else none
  | .bipush k => bif sv_le (-128) k && sv_le k 127 then sv_to S ((1, sv_k k) :: S.2.2.1) n 2 pc w else none
  | .sipush k => bif sv_le (-32768) k && sv_le k 32767 then sv_to S ((1, sv_k k) :: S.2.2.1) n 3 pc w else none
  | .lconst f => sv_to S ((2, sv_k (Int.ofNat f.val)) :: S.2.2.1) n 1 pc w
  | .aconst_null => sv_to S ((3, sv_k (-1)) :: S.2.2.1) n 1 pc w
  | .iload_n f => bif Nat.beq n 1 then sv_ld S 1 f.val 1 pc w else none
  | .iload j => bif Nat.beq n 2 then sv_ld S 1 j 2 pc w else none
  | .lload_n f => bif Nat.beq n 1 then sv_ld S 2 f.val 1 pc w else none
  | .lload j => bif Nat.beq n 2 then sv_ld S 2 j 2 pc w else none
  | .aload_n f => bif Nat.beq n 1 then sv_ld S 3 f.val 1 pc w else none
  | .aload j => bif Nat.beq n 2 then sv_ld S 3 j 2 pc w else none
  | .istore_n f => bif Nat.beq n 1 then sv_sto nL S 1 f.val 1 pc w else none
  | .istore j => bif Nat.beq n 2 then sv_sto nL S 1 j 2 pc w else none
  | .lstore_n f => bif Nat.beq n 1 then sv_sto nL S 2 f.val 1 pc w else none
  | .lstore j => bif Nat.beq n 2 then sv_sto nL S 2 j 2 pc w else none
  | .astore_n f => bif Nat.beq n 1 then sv_sto nL S 3 f.val 1 pc w else none
  | .astore j => bif Nat.beq n 2 then sv_sto nL S 3 j 2 pc w else none
  | .dup => match S.2.2.1 with
    | a :: r => bif Nat.beq a.1 2 then none else sv_to S (a :: a :: r) n 1 pc w
    | _ => none
  | .dup_x1 => match S.2.2.1 with
    | a :: b :: r => bif Nat.beq a.1 2 || Nat.beq b.1 2 then none else sv_to S (a :: b :: a :: r) n 1 pc w
    | _ => none
  | .dup2 => match S.2.2.1 with
    | a :: b :: r => bif Nat.beq a.1 2 then sv_to S (a :: a :: b :: r) n 1 pc w else bif Nat.beq b.1 2 then none else sv_to S (a :: b :: a :: b :: r) n 1 pc w
    | a :: [] => bif Nat.beq a.1 2 then sv_to S (a :: a :: []) n 1 pc w else none
    | _ => none
  | .pop => match S.2.2.1 with
    | a :: r => bif Nat.beq a.1 2 then none else sv_to S r n 1 pc w
    | _ => none
  | .pop2 => match S.2.2.1 with
    | a :: r => bif Nat.beq a.1 2 then sv_to S r n 1 pc w else none
    | _ => none
  | .goto o => bif Nat.beq n 3 && sv_ge0 (Int.add (Int.ofNat pc) o) then some ([(S, (Int.add (Int.ofNat pc) o).toNat)], w) else none
  | _ => none
theorem sv_cat {ρ : List Int} {a : SvA} {v : Value} (h : sv_VOk ρ a v) : v.category = if a.1 = 2 then 2 else 1 := by
  obtain ⟨h1, h2, -⟩ := h
  rw [← h1] at h2 ⊢
  cases v <;> simp [sv_tag, Value.category] at h2 ⊢
theorem sv_cat1 {ρ : List Int} {a : SvA} {v : Value} (h : sv_VOk ρ a v) (ha : Nat.beq a.1 2 = false) : v.category = 1 := by
  rw [sv_cat h, if_neg (fun q => by rw [q] at ha; cases ha)]
theorem sv_cat2 {ρ : List Int} {a : SvA} {v : Value} (h : sv_VOk ρ a v) (ha : Nat.beq a.1 2 = true) : v.category = 2 := by
  rw [sv_cat h, if_pos (Nat.eq_of_beq_eq_true ha)]
theorem sv_get_ok {ρ : List Int} : ∀ {as : List (Nat × SvA)} {vs : List (Nat × Value)} {i : Nat} {a : SvA}, sv_LoOk ρ as vs → sv_get as i = some a → ∃ (k : Nat) (v : Value), vs[k]? = some (i, v) ∧ sv_VOk ρ a v
  | [], _, i, a, _, h => by simp [sv_get] at h
  | (j, b) :: t, [], i, a, hl, _ => hl.elim
  | (j, b) :: t, (j', v) :: vs, i, a, hl, h => by
    simp only [sv_get] at h
    cases hb : Nat.beq j i with
    | true =>
      rw [hb] at h
      simp only [cond_true, Option.some.injEq] at h
      subst h
      have e1 : j = i := Nat.eq_of_beq_eq_true hb
      have e2 : j = j' := hl.1
      refine ⟨0, v, ?_, hl.2.1⟩
      rw [← e1, e2]
      rfl
    | false =>
      rw [hb] at h
      simp only [cond_false] at h
      obtain ⟨k, u, h1, h2⟩ := sv_get_ok hl.2.2 h
      exact ⟨k + 1, u, h1, h2⟩
theorem sv_fl1_ok {ρ : List Int} {i : Nat} : ∀ {as : List (Nat × SvA)} {vs : List (Nat × Value)}, sv_LoOk ρ as vs → sv_LoOk ρ (sv_fl i false as) (vs.filter (fun q => !(q.1 == i) && !(q.1 + 1 == i && q.2.category == 2)))
  | [], [], _ => trivial
  | [], _ :: _, h => h.elim
  | _ :: _, [], h => h.elim
  | (j, a) :: t, (j', v) :: vs, h => by
    have e : j = j' := h.1
    subst e
    have ih := sv_fl1_ok (i := i) h.2.2
    have hc := sv_cat h.2.1
    simp only [sv_fl, List.filter]
    cases h1 : Nat.beq j i with
    | true =>
      have e1 : (j == i) = true := by rw [beq_iff_eq]; exact Nat.eq_of_beq_eq_true h1
      simp only [e1, Bool.not_true, Bool.false_and, Bool.true_or, cond_true]
      exact ih
    | false =>
      have e1 : (j == i) = false := by
        rw [beq_eq_false_iff_ne]
        intro q
        subst q
        rw [Nat.beq_refl] at h1
        cases h1
      cases h2 : Nat.beq (j + 1) i with
      | false =>
        have e2 : (j + 1 == i) = false := by
          rw [beq_eq_false_iff_ne]
          intro q
          subst q
          rw [Nat.beq_refl] at h2
          cases h2
        simp only [e1, e2, Bool.not_false, Bool.false_and, Bool.and_self, Bool.or_self, cond_false]
        exact ⟨rfl, h.2.1, ih⟩
      | true =>
        have e2 : (j + 1 == i) = true := by rw [beq_iff_eq]; exact Nat.eq_of_beq_eq_true h2
        cases h3 : Nat.beq a.1 2 with
        | true =>
          have e3 : v.category = 2 := sv_cat2 h.2.1 h3
          simp only [e1, e2, e3, Bool.not_false, Bool.true_and, Bool.false_and, Bool.or_true, cond_true, beq_self_eq_true, Bool.not_true]
          exact ih
        | false =>
          have e3 : v.category = 1 := sv_cat1 h.2.1 h3
          have e4 : ((1 : Nat) == 2) = false := rfl
          simp only [e1, e2, e3, e4, Bool.not_false, Bool.false_and, Bool.and_false, Bool.or_self, cond_false, Bool.and_self]
          exact ⟨rfl, h.2.1, ih⟩
theorem sv_fl2_ok {ρ : List Int} {i : Nat} : ∀ {as : List (Nat × SvA)} {vs : List (Nat × Value)}, sv_LoOk ρ as vs → sv_LoOk ρ (sv_fl i true as) (vs.filter (fun q => !(q.1 == i) && (!(q.1 == i + 1) && !(q.1 + 1 == i && q.2.category == 2))))
  | [], [], _ => trivial
  | [], _ :: _, h => h.elim
  | _ :: _, [], h => h.elim
  | (j, a) :: t, (j', v) :: vs, h => by
    have e : j = j' := h.1
    subst e
    have ih := sv_fl2_ok (i := i) h.2.2
    simp only [sv_fl, List.filter]
    have hbq : ∀ x y : Nat, Nat.beq x y = (x == y) := fun x y => by
      cases hx : Nat.beq x y with
      | true => exact (beq_iff_eq.mpr (Nat.eq_of_beq_eq_true hx)).symm
      | false => exact (beq_eq_false_iff_ne.mpr (fun q => by subst q; rw [Nat.beq_refl] at hx; cases hx)).symm
    have hcc : Nat.beq a.1 2 = (v.category == 2) := by
      cases h3 : Nat.beq a.1 2 with
      | true => rw [sv_cat2 h.2.1 h3]; rfl
      | false => rw [sv_cat1 h.2.1 h3]; rfl
    rw [hcc, hbq j i, hbq j (i + 1), hbq (j + 1) i]
    cases q1 : (j == i) <;> cases q2 : (j == i + 1) <;> cases q3 : (j + 1 == i && v.category == 2) <;> simp only [q1, q2, q3, Bool.true_and, Bool.or_self, Bool.or_true, Bool.true_or, Bool.or_false, Bool.false_or, Bool.not_false, Bool.not_true, Bool.and_self, Bool.false_and, Bool.and_false, cond_true, cond_false] <;> first | exact ih | exact ⟨rfl, h.2.1, ih⟩
section SVA
variable {p : Program} {l : Launch} {e : Env} {R : Room} {s : State} {m : MethodId} {args : Array Value} {below : List Frame} {meth : Method} {c : Code} {Q : State → Prop}
variable {P : Nat → List Nat → List Int → (Nat → Nat) → Heap → Prop} {D : va_G} {AC : Nat → ClassId} {kd : List SvK} {B0 : Nat} {κ0 : Nat → Nat} {mF mA : List Nat} {Px : List Int → Prop} {nL : Nat} {cc : ByteArray} {pc n : Nat} {w w' : List Nat} {S : SvS} {r : List (SvS × Nat)}
theorem sv_ld_ok {t j k : Nat} (h : sv_ld S t j k pc w = some (r, w')) (hk : ∀ q ∈ r, sv_Good p l e R s m args below meth c Q P D AC kd B0 κ0 mF mA Px nL q.1 q.2)
    (hr : ∀ (H : Heap) (locs : List Loc) (cells slots : Nat) (ls : Array Slot) (st : List Value) (v : Value), sv_tag v = t → ls[j]? = some (.val v) → W p l e R s m args below meth c H locs cells slots Q (F0 m (pc + k) ls (v :: st)) → W p l e R s m args below meth c H locs cells slots Q (F0 m pc ls st)) : sv_Good p l e R s m args below meth c Q P D AC kd B0 κ0 mF mA Px nL S pc := by
  unfold sv_ld at h
  cases hg : sv_get S.2.1 j with
  | none => rw [hg] at h; simp at h
  | some a =>
    rw [hg] at h
    cases hb : Nat.beq a.1 t with
    | false => simp only [hb, cond_false] at h; cases h
    | true =>
      simp only [hb, cond_true, Option.some.injEq, Prod.mk.injEq] at h
      obtain ⟨rfl, -⟩ := h
      intro κ H locs ρ ls st hI hP hS
      obtain ⟨lv, h1, h2⟩ := hS.2.1
      obtain ⟨i, v, h3, h4⟩ := sv_get_ok h2 hg
      exact hr H locs _ _ ls st v (h4.1.trans (Nat.eq_of_beq_eq_true hb)) (lv_at h1 i h3) (hk _ List.mem_cons_self κ H locs ρ ls _ hI hP (sv_stk_ok hS hS.2.2.1 h4))
theorem sv_sto_ok {t j k : Nat} (h : sv_sto nL S t j k pc w = some (r, w')) (hk : ∀ q ∈ r, sv_Good p l e R s m args below meth c Q P D AC kd B0 κ0 mF mA Px nL q.1 q.2)
    (hr : ∀ (H : Heap) (locs : List Loc) (cells slots : Nat) (ls : Array Slot) (lv : List (Nat × Value)) (st : List Value) (v : Value), sv_tag v = t → lv_has ls nL lv → (if t = 2 then j + 1 < nL else j < nL) →
      (∀ ls', lv_has ls' nL ((j, v) :: (if t = 2 then lv.filter (fun q => !(q.1 == j) && (!(q.1 == j + 1) && !(q.1 + 1 == j && q.2.category == 2))) else lv.filter (fun q => !(q.1 == j) && !(q.1 + 1 == j && q.2.category == 2)))) → W p l e R s m args below meth c H locs cells slots Q (F0 m (pc + k) ls' st)) → W p l e R s m args below meth c H locs cells slots Q (F0 m pc ls (v :: st))) : sv_Good p l e R s m args below meth c Q P D AC kd B0 κ0 mF mA Px nL S pc := by
  unfold sv_sto at h
  split at h
  · rename_i a rest hst
    cases hb : Nat.beq a.1 t with
    | false => simp only [hb, Bool.false_and, cond_false] at h; cases h
    | true =>
      have ht : a.1 = t := Nat.eq_of_beq_eq_true hb
      cases hl : (bif Nat.beq t 2 then Nat.blt (j + 1) nL else Nat.blt j nL) with
      | false => simp only [hb, hl, Bool.true_and, cond_false] at h; cases h
      | true =>
        simp only [hb, hl, Bool.true_and, cond_true, Option.some.injEq, Prod.mk.injEq] at h
        obtain ⟨rfl, -⟩ := h
        intro κ H locs ρ ls st hI hP hS
        obtain ⟨hb1, ⟨lv, h1, h2⟩, h3, h4⟩ := hS
        rw [hst] at h3
        obtain ⟨v, vs, rfl, h5, h6⟩ := sv_StOk_cons h3
        refine hr H locs _ _ ls lv vs v (h5.1.trans ht) h1 ?_ (fun ls' hls => hk _ List.mem_cons_self κ H locs ρ ls' vs hI hP ⟨hb1, ⟨_, hls, rfl, h5, ?_⟩, h6, h4⟩)
        · cases h2' : Nat.beq t 2 with
          | true =>
            rw [h2', cond_true] at hl
            rw [if_pos (Nat.eq_of_beq_eq_true h2')]
            exact Nat.lt_of_lt_of_le (Nat.lt_succ_self _) (Nat.le_of_ble_eq_true hl)
          | false =>
            rw [h2', cond_false] at hl
            rw [if_neg (fun q => by rw [q] at h2'; cases h2')]
            exact Nat.lt_of_lt_of_le (Nat.lt_succ_self _) (Nat.le_of_ble_eq_true hl)
        · cases h2' : Nat.beq t 2 with
          | true =>
            rw [if_pos (Nat.eq_of_beq_eq_true h2')]
            exact sv_fl2_ok h2
          | false =>
            rw [if_neg (fun q => by rw [q] at h2'; cases h2')]
            exact sv_fl1_ok h2
  · simp at h
theorem sv_to_ok {stk : List SvA} {k : Nat} (h : sv_to S stk n k pc w = some (r, w')) (hk : ∀ q ∈ r, sv_Good p l e R s m args below meth c Q P D AC kd B0 κ0 mF mA Px nL q.1 q.2)
    (hr : n = k → ∀ (κ : Nat → Nat) (H : Heap) (locs : List Loc) (cells slots : Nat) (ρ : List Int) (ls : Array Slot) (st : List Value), sv_StOk ρ S.2.2.1 st → (∀ st', sv_StOk ρ stk st' → W p l e R s m args below meth c H locs cells slots Q (F0 m (pc + k) ls st')) → W p l e R s m args below meth c H locs cells slots Q (F0 m pc ls st)) : sv_Good p l e R s m args below meth c Q P D AC kd B0 κ0 mF mA Px nL S pc := by
  unfold sv_to at h
  cases hb : Nat.beq n k with
  | false => simp only [hb, cond_false] at h; cases h
  | true =>
    simp only [hb, cond_true, Option.some.injEq, Prod.mk.injEq] at h
    obtain ⟨rfl, -⟩ := h
    intro κ H locs ρ ls st hI hP hS
    exact hr (Nat.eq_of_beq_eq_true hb) κ H locs _ _ ρ ls st hS.2.2.1 (fun st' hst => hk _ List.mem_cons_self κ H locs ρ ls st' hI hP (sv_pop_ok hS hst))
theorem sv_A_ok (hx : p.tables.exec = Jvm.exec) (hb : c.code = cc) {i : Instr} (hd : decode cc pc = .ok (i, n)) (h : sv_A nL S pc i n w = some (r, w')) (hk : ∀ q ∈ r, sv_Good p l e R s m args below meth c Q P D AC kd B0 κ0 mF mA Px nL q.1 q.2) : sv_Good p l e R s m args below meth c Q P D AC kd B0 κ0 mF mA Px nL S pc := by
  unfold sv_A at h
  split at h
  · rename_i k
    cases hq : (sv_le (-1) k && sv_le k 5) with
    | false => simp only [hq, cond_false] at h; cases h
    | true =>
      simp only [hq, cond_true] at h
      simp only [Bool.and_eq_true, sv_le_iff] at hq
      refine sv_to_ok h hk (fun hn κ H locs cells slots ρ ls st hst kk => ?_)
      subst hn
      exact lv_iconst hx hb hd rfl (kk _ ⟨sv_mkV1 (by rw [sv_ev_k, Int32.toInt_ofInt_of_le (by omega) (by omega)]), hst⟩)
  · rename_i k
    cases hq : (sv_le (-128) k && sv_le k 127) with
    | false => simp only [hq, cond_false] at h; cases h
    | true =>
      simp only [hq, cond_true] at h
      simp only [Bool.and_eq_true, sv_le_iff] at hq
      refine sv_to_ok h hk (fun hn κ H locs cells slots ρ ls st hst kk => ?_)
      subst hn
      exact lv_bipush hx hb hd rfl (kk _ ⟨sv_mkV1 (by rw [sv_ev_k, Int8.toInt_toInt32, Int8.toInt_ofInt_of_le (by omega) (by omega)]), hst⟩)
  · rename_i k
    cases hq : (sv_le (-32768) k && sv_le k 32767) with
    | false => simp only [hq, cond_false] at h; cases h
    | true =>
      simp only [hq, cond_true] at h
      simp only [Bool.and_eq_true, sv_le_iff] at hq
      refine sv_to_ok h hk (fun hn κ H locs cells slots ρ ls st hst kk => ?_)
      subst hn
      exact lv_sipush hx hb hd rfl (kk _ ⟨sv_mkV1 (by rw [sv_ev_k, Int16.toInt_toInt32, Int16.toInt_ofInt_of_le (by omega) (by omega)]), hst⟩)
  · rename_i f
    refine sv_to_ok h hk (fun hn κ H locs cells slots ρ ls st hst kk => ?_)
    subst hn
    refine lv_lconst hx hb hd rfl (kk _ ⟨sv_mkV2 ?_, hst⟩)
    rw [sv_ev_k, Int64.toInt_ofNat_of_lt (by have := f.isLt; omega)]
    rfl
  · refine sv_to_ok h hk (fun hn κ H locs cells slots ρ ls st hst kk => ?_)
    subst hn
    exact lv_null hx hb hd (kk _ ⟨sv_mkV3n (sv_ev_k _ _), hst⟩)
  · rename_i f
    cases hq : Nat.beq n 1 with
    | false => simp only [hq, cond_false] at h; cases h
    | true =>
      simp only [hq, cond_true] at h
      have hn := Nat.eq_of_beq_eq_true hq
      subst hn
      refine sv_ld_ok h hk (fun H locs cells slots ls st v hv hl kk => ?_)
      obtain ⟨x, rfl, -⟩ := sv_val1 hv
      exact lv_iload_n hx hb hd rfl hl kk
  · rename_i f
    cases hq : Nat.beq n 2 with
    | false => simp only [hq, cond_false] at h; cases h
    | true =>
      simp only [hq, cond_true] at h
      have hn := Nat.eq_of_beq_eq_true hq
      subst hn
      refine sv_ld_ok h hk (fun H locs cells slots ls st v hv hl kk => ?_)
      obtain ⟨x, rfl, -⟩ := sv_val1 hv
      exact lv_iload hx hb hd hl kk
  · rename_i f
    cases hq : Nat.beq n 1 with
    | false => simp only [hq, cond_false] at h; cases h
    | true =>
      simp only [hq, cond_true] at h
      have hn := Nat.eq_of_beq_eq_true hq
      subst hn
      refine sv_ld_ok h hk (fun H locs cells slots ls st v hv hl kk => ?_)
      obtain ⟨x, rfl, -⟩ := sv_val2 hv
      exact lv_lload_n hx hb hd rfl hl kk
  · rename_i f
    cases hq : Nat.beq n 2 with
    | false => simp only [hq, cond_false] at h; cases h
    | true =>
      simp only [hq, cond_true] at h
      have hn := Nat.eq_of_beq_eq_true hq
      subst hn
      refine sv_ld_ok h hk (fun H locs cells slots ls st v hv hl kk => ?_)
      obtain ⟨x, rfl, -⟩ := sv_val2 hv
      exact lv_lload hx hb hd hl kk
  · rename_i f
    cases hq : Nat.beq n 1 with
    | false => simp only [hq, cond_false] at h; cases h
    | true =>
      simp only [hq, cond_true] at h
      have hn := Nat.eq_of_beq_eq_true hq
      subst hn
      refine sv_ld_ok h hk (fun H locs cells slots ls st v hv hl kk => ?_)
      rcases sv_val3 hv with ⟨rfl, -⟩ | ⟨x, rfl, -⟩
      · exact lv_aload_nN hx hb hd rfl hl kk
      · exact lv_aload_n hx hb hd rfl hl kk
  · rename_i f
    cases hq : Nat.beq n 2 with
    | false => simp only [hq, cond_false] at h; cases h
    | true =>
      simp only [hq, cond_true] at h
      have hn := Nat.eq_of_beq_eq_true hq
      subst hn
      refine sv_ld_ok h hk (fun H locs cells slots ls st v hv hl kk => ?_)
      rcases sv_val3 hv with ⟨rfl, -⟩ | ⟨x, rfl, -⟩
      · exact lv_aloadN hx hb hd hl kk
      · exact lv_aload hx hb hd hl kk
  · rename_i f
    cases hq : Nat.beq n 1 with
    | false => simp only [hq, cond_false] at h; cases h
    | true =>
      simp only [hq, cond_true] at h
      have hn := Nat.eq_of_beq_eq_true hq
      subst hn
      refine sv_sto_ok h hk (fun H locs cells slots ls lv st v hv hl hlt kk => ?_)
      obtain ⟨x, rfl, -⟩ := sv_val1 hv
      exact lv_istore_n hx hb hd rfl hl hlt rfl kk
  · rename_i f
    cases hq : Nat.beq n 2 with
    | false => simp only [hq, cond_false] at h; cases h
    | true =>
      simp only [hq, cond_true] at h
      have hn := Nat.eq_of_beq_eq_true hq
      subst hn
      refine sv_sto_ok h hk (fun H locs cells slots ls lv st v hv hl hlt kk => ?_)
      obtain ⟨x, rfl, -⟩ := sv_val1 hv
      exact lv_istore hx hb hd hl hlt rfl kk
  · rename_i f
    cases hq : Nat.beq n 1 with
    | false => simp only [hq, cond_false] at h; cases h
    | true =>
      simp only [hq, cond_true] at h
      have hn := Nat.eq_of_beq_eq_true hq
      subst hn
      refine sv_sto_ok h hk (fun H locs cells slots ls lv st v hv hl hlt kk => ?_)
      obtain ⟨x, rfl, -⟩ := sv_val2 hv
      exact lv_lstore_n hx hb hd rfl hl hlt rfl kk
  · rename_i f
    cases hq : Nat.beq n 2 with
    | false => simp only [hq, cond_false] at h; cases h
    | true =>
      simp only [hq, cond_true] at h
      have hn := Nat.eq_of_beq_eq_true hq
      subst hn
      refine sv_sto_ok h hk (fun H locs cells slots ls lv st v hv hl hlt kk => ?_)
      obtain ⟨x, rfl, -⟩ := sv_val2 hv
      exact lv_lstore hx hb hd hl hlt rfl kk
  · rename_i f
    cases hq : Nat.beq n 1 with
    | false => simp only [hq, cond_false] at h; cases h
    | true =>
      simp only [hq, cond_true] at h
      have hn := Nat.eq_of_beq_eq_true hq
      subst hn
      refine sv_sto_ok h hk (fun H locs cells slots ls lv st v hv hl hlt kk => ?_)
      rcases sv_val3 hv with ⟨rfl, -⟩ | ⟨x, rfl, -⟩
      · exact lv_astore_nN hx hb hd rfl hl hlt rfl kk
      · exact lv_astore_n hx hb hd rfl hl hlt rfl kk
  · rename_i f
    cases hq : Nat.beq n 2 with
    | false => simp only [hq, cond_false] at h; cases h
    | true =>
      simp only [hq, cond_true] at h
      have hn := Nat.eq_of_beq_eq_true hq
      subst hn
      refine sv_sto_ok h hk (fun H locs cells slots ls lv st v hv hl hlt kk => ?_)
      rcases sv_val3 hv with ⟨rfl, -⟩ | ⟨x, rfl, -⟩
      · exact lv_astoreN hx hb hd hl hlt rfl kk
      · exact lv_astore hx hb hd hl hlt rfl kk
  · split at h
    · rename_i a rest hst
      cases hq : Nat.beq a.1 2 with
      | true => simp only [hq, cond_true] at h; cases h
      | false =>
        simp only [hq, cond_false] at h
        refine sv_to_ok h hk (fun hn κ H locs cells slots ρ ls st hs kk => ?_)
        subst hn
        rw [hst] at hs
        obtain ⟨v, vs, rfl, h5, h6⟩ := sv_StOk_cons hs
        exact lv_dup hx hb hd (sv_cat1 h5 hq) (kk _ ⟨h5, h5, h6⟩)
    · simp at h
  · split at h
    · rename_i a b rest hst
      cases hq : (Nat.beq a.1 2 || Nat.beq b.1 2) with
      | true => simp only [hq, cond_true] at h; cases h
      | false =>
        simp only [hq, cond_false] at h
        rw [Bool.or_eq_false_iff] at hq
        refine sv_to_ok h hk (fun hn κ H locs cells slots ρ ls st hs kk => ?_)
        subst hn
        rw [hst] at hs
        obtain ⟨v, vs, rfl, h5, h6⟩ := sv_StOk_cons hs
        obtain ⟨v2, vs2, rfl, h7, h8⟩ := sv_StOk_cons h6
        exact lv_dup_x1 hx hb hd (sv_cat1 h5 hq.1) (sv_cat1 h7 hq.2) (kk _ ⟨h5, h7, h5, h8⟩)
    · simp at h
  · split at h
    · rename_i a b rest hst
      cases hq : Nat.beq a.1 2 with
      | true =>
        simp only [hq, cond_true] at h
        refine sv_to_ok h hk (fun hn κ H locs cells slots ρ ls st hs kk => ?_)
        subst hn
        rw [hst] at hs
        obtain ⟨v, vs, rfl, h5, h6⟩ := sv_StOk_cons hs
        exact lv_dup2_2 hx hb hd (sv_cat2 h5 hq) (kk _ ⟨h5, h5, h6⟩)
      | false =>
        simp only [hq, cond_false] at h
        cases hq2 : Nat.beq b.1 2 with
        | true => simp only [hq2, cond_true] at h; cases h
        | false =>
          simp only [hq2, cond_false] at h
          refine sv_to_ok h hk (fun hn κ H locs cells slots ρ ls st hs kk => ?_)
          subst hn
          rw [hst] at hs
          obtain ⟨v, vs, rfl, h5, h6⟩ := sv_StOk_cons hs
          obtain ⟨v2, vs2, rfl, h7, h8⟩ := sv_StOk_cons h6
          exact lv_dup2_11 hx hb hd (sv_cat1 h5 hq) (sv_cat1 h7 hq2) (kk _ ⟨h5, h7, h5, h7, h8⟩)
    · rename_i a hst
      cases hq : Nat.beq a.1 2 with
      | false => simp only [hq, cond_false] at h; cases h
      | true =>
        simp only [hq, cond_true] at h
        refine sv_to_ok h hk (fun hn κ H locs cells slots ρ ls st hs kk => ?_)
        subst hn
        rw [hst] at hs
        obtain ⟨v, vs, rfl, h5, h6⟩ := sv_StOk_cons hs
        exact lv_dup2_2 hx hb hd (sv_cat2 h5 hq) (kk _ ⟨h5, h5, h6⟩)
    · simp at h
  · split at h
    · rename_i a rest hst
      cases hq : Nat.beq a.1 2 with
      | true => simp only [hq, cond_true] at h; cases h
      | false =>
        simp only [hq, cond_false] at h
        refine sv_to_ok h hk (fun hn κ H locs cells slots ρ ls st hs kk => ?_)
        subst hn
        rw [hst] at hs
        obtain ⟨v, vs, rfl, h5, h6⟩ := sv_StOk_cons hs
        exact lv_pop hx hb hd (sv_cat1 h5 hq) (kk _ h6)
    · simp at h
  · split at h
    · rename_i a rest hst
      cases hq : Nat.beq a.1 2 with
      | false => simp only [hq, cond_false] at h; cases h
      | true =>
        simp only [hq, cond_true] at h
        refine sv_to_ok h hk (fun hn κ H locs cells slots ρ ls st hs kk => ?_)
        subst hn
        rw [hst] at hs
        obtain ⟨v, vs, rfl, h5, h6⟩ := sv_StOk_cons hs
        exact lv_pop2_2 hx hb hd (sv_cat2 h5 hq) (kk _ h6)
    · simp at h
  · rename_i o
    cases hq : (Nat.beq n 3 && sv_ge0 (Int.add (Int.ofNat pc) o)) with
    | false => simp only [hq, cond_false] at h; cases h
    | true =>
      simp only [hq, cond_true, Option.some.injEq, Prod.mk.injEq] at h
      obtain ⟨rfl, -⟩ := h
      rw [Bool.and_eq_true, sv_ge0_iff] at hq
      have hn := Nat.eq_of_beq_eq_true hq.1
      subst hn
      intro κ H locs ρ ls st hI hP hS
      exact lv_goto hx hb hd (tgt := (Int.add (Int.ofNat pc) o).toNat) (Int.toNat_of_nonneg hq.2).symm (hk _ List.mem_cons_self κ H locs ρ ls st hI hP hS)
  · simp at h
end SVA
