-- ===== calls =====
theorem sv_slots_ext {H H' : Heap} (h : ∀ (q : Nat) (c : Cell), H[q]? = some c → ∃ c' : Cell, H'[q]? = some c' ∧ c'.slots.size = c.slots.size) : sv_slots H' = sv_slots H + ((H'.toList.drop H.size).map (·.slots.size)).sum := by
  have e1 : (H'.toList.take H.size).map (·.slots.size) = H.toList.map (·.slots.size) := by
    apply List.ext_getElem?
    intro i
    rw [List.getElem?_map, List.getElem?_map, List.getElem?_take]
    by_cases hi : i < H.size
    · rw [if_pos hi, Array.getElem?_toList, Array.getElem?_toList]
      obtain ⟨c', h1, h2⟩ := h i H[i] (Array.getElem?_eq_getElem hi)
      rw [h1, Array.getElem?_eq_getElem hi]
      simp only [Option.map_some, h2]
    · rw [if_neg hi, Array.getElem?_toList, Array.getElem?_eq_none (by omega)]
  unfold sv_slots
  rw [← e1, ← List.sum_append, ← List.map_append, List.take_append_drop]
section SVT
variable {p : Program} {l : Launch} {e : Env} {R : Room} {s : State} {m : MethodId} {args : Array Value} {below : List Frame} {meth : Method} {c : Code} {H : Heap} {locs : List Loc} {cells slots : Nat} {Q : State → Prop}
/-- the counts of what has been made can be taken from the heap itself -/
theorem sv_tight {g : JFrame} (k : W p l e R s m args below meth c H locs (H.size - s.heap.size) (sv_slots H - sv_slots s.heap) Q g) : W p l e R s m args below meth c H locs cells slots Q g := by
  intro T hT X
  refine k T hT { X with same := ?_ }
  obtain ⟨h1, h2, h3, h4, h5, h6⟩ := X.same
  have e1 : sv_slots T.heap = sv_slots s.heap + ((T.heap.toList.drop s.heap.size).map (·.slots.size)).sum := sv_slots_ext fun q c0 hc => by
    obtain ⟨c', g1, -, g3, -⟩ := h6 q c0 hc
    exact ⟨c', g1, g3⟩
  have h2 : s.heap.size ≤ T.heap.size := h2
  refine ⟨h1, h2, ?_, h4, ?_, h6⟩
  · show T.heap.size ≤ s.heap.size + (H.size - s.heap.size)
    rw [← hT]
    omega
  · show ((T.heap.toList.drop s.heap.size).map (·.slots.size)).sum ≤ _
    rw [← hT]
    omega
end SVT
-- what a method asks and gives: bounds, parameters, facts; fields, arrays that may change, kinds being made; ways out: more numbers, facts, the answer; room of cells, slots
abbrev SvW : Type := List SvB × List SvF × Option SvA
abbrev SvP : Type := List SvB × List SvA × List SvF × List Nat × List Nat × List Nat × List SvW × Nat × Nat
def sv_Pre (P : Nat → List Nat → List Int → (Nat → Nat) → Heap → Prop) (D : va_G) (AC : Nat → ClassId) (kd : List SvK) (B0 : Nat) (sp : SvP) (κ : Nat → Nat) (H : Heap) (ρ : List Int) (vals : List Value) : Prop :=
  sv_TI D AC kd B0 κ H ∧ sv_nth ρ 0 = some (H.size : Int) ∧ sv_nth ρ 1 = some (sv_slots H : Int) ∧ sv_BOk ρ sp.1 ∧ sv_StOk ρ sp.2.1 vals ∧ ∀ f ∈ sp.2.2.1, sv_FOk P D kd κ H ρ f
def sv_Ans (ρ : List Int) : Option SvA → Option Value → Prop
  | none, none => True
  | some a, some v => sv_VOk ρ a v
  | _, _ => False
def sv_Post (P : Nat → List Nat → List Int → (Nat → Nat) → Heap → Prop) (D : va_G) (AC : Nat → ClassId) (kd : List SvK) (B0 : Nat) (sp : SvP) (κ : Nat → Nat) (H : Heap) (ρ : List Int) (vals : List Value) (o : Option Value) (H' : Heap) : Prop :=
  ∃ κ', sv_TI D AC kd B0 κ' H' ∧ sv_Fr D kd sp.2.2.2.1 sp.2.2.2.2.1 κ H H' ∧ H.size ≤ H'.size ∧ (∀ q, q < H.size → κ' q = κ q ∨ (vals.head? = some (.ref q) ∧ κ q ∈ sp.2.2.2.2.2.1)) ∧ sv_slots H ≤ sv_slots H' ∧
    ∃ w ∈ sp.2.2.2.2.2.2.1, ∃ τ, sv_BOk (ρ ++ τ) (sp.1 ++ w.1) ∧ (∀ f ∈ w.2.1, sv_FOk P D kd κ' H' (ρ ++ τ) f) ∧ sv_Ans (ρ ++ τ) w.2.2 o
def sv_inv (op idx : Nat) : Instr := match op with
  | 0 => .invokevirtual idx
  | 1 => .invokestatic idx
  | _ => .invokespecial idx
def sv_cats : List SvA → Nat
  | [] => 0
  | a :: t => Nat.add (bif Nat.beq a.1 2 then 2 else 1) (sv_cats t)
def sv_tk : Nat → List SvA → List SvA → Option (List SvA × List SvA)
  | 0, acc, l => some (acc, l)
  | n + 1, acc, a :: l => sv_tk n (a :: acc) l
  | _ + 1, _, [] => none
def sv_len {α : Type} : List α → Nat
  | [] => 0
  | _ :: t => Nat.add (sv_len t) 1
theorem sv_len_eq {α : Type} : ∀ l : List α, sv_len l = l.length
  | [] => rfl
  | _ :: t => by
    show sv_len t + 1 = t.length + 1
    rw [sv_len_eq t]
def sv_appb {α : Type} : List α → List α → List α
  | [], b => b
  | x :: t, b => x :: sv_appb t b
theorem sv_appb_eq {α : Type} : ∀ a b : List α, sv_appb a b = a ++ b
  | [], _ => rfl
  | x :: t, b => by simp [sv_appb, sv_appb_eq t b]
def sv_all (l : List Nat) : List Nat → Bool
  | [] => true
  | a :: t => sv_nin a l && sv_all l t
theorem sv_all_mem {l : List Nat} : ∀ {t : List Nat}, sv_all l t = true → ∀ a ∈ t, a ∈ l
  | [], _, _, h => by cases h
  | b :: t, h, a, ha => by
    simp only [sv_all, Bool.and_eq_true] at h
    rcases List.mem_cons.mp ha with rfl | ha
    · exact sv_nin_mem h.1
    · exact sv_all_mem h.2 a ha
/-- facts of a way out come in -/
def sv_gain (σ : List SvL) : List SvF → SvS → Option SvS
  | [], S => some S
  | f :: fs, S => match sv_sus σ f.2.2 with
    | some es => (bif Nat.beq f.1 0 then (match es with
        | [x] => sv_gain σ fs (sv_asm S x)
        | _ => none)
      else sv_gain σ fs (S.1, S.2.1, S.2.2.1, (f.1, f.2.1, es) :: S.2.2.2))
    | none => none
def sv_outs (σ : List SvL) (b : List SvB) (lo : List (Nat × SvA)) (rest : List SvA) (fs : List SvF) (pc : Nat) : List SvW → Option (List (SvS × Nat))
  | [] => some []
  | w :: ws => match sv_outs σ b lo rest fs pc ws with
    | some t => match (match w.2.2 with
        | none => some rest
        | some a => (match sv_su (sv_appl σ (sv_vsF (sv_len b) (sv_len w.1))) a.2 with
          | some x => some ((a.1, x) :: rest)
          | none => none)) with
      | some st' => (match sv_gain (sv_appl σ (sv_vsF (sv_len b) (sv_len w.1))) w.2.1 (sv_appb b w.1, lo, st', fs) with
        | some S' => some ((S', pc) :: t)
        | none => none)
      | none => none
    | none => none
def sv_this (vals : List SvA) : SvL := match vals with
  | a :: _ => a.2
  | [] => (0, [])
def sv_callA (sup : Nat → List Nat × List Nat) (mF mA : List Nat) (mc ms : Nat) (sp : SvP) (S : SvS) (vals rest : List SvA) (h sl : SvL) (pc : Nat) (w : List Nat) : Option (List (SvS × Nat) × List Nat) := match sv_rlins (Nat.sub (sv_len sp.1) 2) w with
  | some (es, w1) => bif sv_wfs (sv_len S.1) (h :: sl :: es) && sv_mst (h :: sl :: es) sp.2.1 vals && Nat.ble (sv_cats rest) 8 && sv_all mF sp.2.2.2.1 && sv_all mA sp.2.2.2.2.1 then (match sv_matchF S (sp.1, [], [], sp.2.2.1) (h :: sl :: es) w1 with
    | some w2 => (match sv_pos S (sv_addc (sv_sub (sv_v 0) h) (Int.sub (Int.ofNat mc) (Int.ofNat sp.2.2.2.2.2.2.2.1))) w2 with
      | some w3 => (match sv_pos S (sv_addc (sv_sub (sv_v 1) sl) (Int.sub (Int.ofNat ms) (Int.ofNat sp.2.2.2.2.2.2.2.2))) w3 with
        | some w4 => (match (bif sv_isnil sp.2.2.2.2.2.1 then some w4 else sv_pos S (sv_sub (sv_this vals) (sv_v 0)) w4) with
          | some w5 => (match sv_outs (h :: sl :: es) S.1 S.2.1 rest (sv_kps sup sp.2.2.2.1 sp.2.2.2.2.1 sp.2.2.2.2.2.1 true S.2.2.2) (pc + 3) sp.2.2.2.2.2.2.1 with
            | some r => some (r, w5)
            | none => none)
          | none => none)
        | none => none)
      | none => none)
    | none => none) else none
  | none => none
/-- the stream says which entry of the table it is (a method may have more than one law) -/
def sv_lkn (lkC : List (Nat × Nat × SvP)) (idx : Nat) (w : List Nat) : Option (Nat × SvP × List Nat) := match w with
  | n :: w1 => (match sv_nth lkC n with
    | some (idx', (op, sp)) => bif Nat.beq idx' idx then some (op, sp, w1) else none
    | none => none)
  | [] => none
theorem sv_lkn_ok {lkC : List (Nat × Nat × SvP)} {idx op : Nat} {sp : SvP} {w w1 : List Nat} (h : sv_lkn lkC idx w = some (op, sp, w1)) : (idx, (op, sp)) ∈ lkC := by
  unfold sv_lkn at h
  split at h
  · rename_i n w2
    split at h
    · rename_i idx' op' sp' hn
      cases hq : Nat.beq idx' idx with
      | false => rw [hq] at h; cases h
      | true =>
        rw [hq] at h
        simp only [cond_true, Option.some.injEq, Prod.mk.injEq] at h
        obtain ⟨rfl, rfl, -⟩ := h
        rw [← Nat.eq_of_beq_eq_true hq]
        exact List.mem_of_getElem? (by rw [← sv_nth_eq]; exact hn)
    · cases h
  · cases h
def sv_call (sup : Nat → List Nat × List Nat) (mF mA : List Nat) (mc ms : Nat) (lkC : List (Nat × Nat × SvP)) (S : SvS) (op idx pc : Nat) (w : List Nat) : Option (List (SvS × Nat) × List Nat) := match sv_lkn lkC idx w with
  | some (op', sp, j7 :: j8 :: w1) => (match sv_f7 S.2.2.2 j7 with
    | some h => (match sv_f8 S.2.2.2 j8 with
      | some sl => (match sv_tk (sv_len sp.2.1) [] S.2.2.1 with
        | some (vals, rest) => bif Nat.beq op' op then sv_callA sup mF mA mc ms sp S vals rest h sl pc w1 else none
        | none => none)
      | none => none)
    | none => none)
  | _ => none
def sv_Y (sup : Nat → List Nat × List Nat) (mF mA : List Nat) (mc ms : Nat) (lkC : List (Nat × Nat × SvP)) (S : SvS) (pc : Nat) (i : Instr) (n : Nat) (w : List Nat) : Option (List (SvS × Nat) × List Nat) := match i with
  | .invokevirtual idx => bif Nat.beq n 3 then sv_call sup mF mA mc ms lkC S 0 idx pc w else none
  | .invokestatic idx => bif Nat.beq n 3 then sv_call sup mF mA mc ms lkC S 1 idx pc w else none
  | .invokespecial idx => bif Nat.beq n 3 then sv_call sup mF mA mc ms lkC S 2 idx pc w else none
  | _ => none
/-- what is known of a call -/
def sv_Cal (p : Program) (l : Launch) (e : Env) (R : Room) (s : State) (m : MethodId) (args : Array Value) (below : List Frame) (meth : Method) (c : Code) (P : Nat → List Nat → List Int → (Nat → Nat) → Heap → Prop) (D : va_G) (AC : Nat → ClassId) (kd : List SvK) (B0 : Nat) (κ0 : Nat → Nat) (nL : Nat) (cc : ByteArray) (op idx : Nat) (sp : SvP) : Prop :=
  ∀ (κ : Nat → Nat) (H : Heap) (locs : List Loc) (cells slots : Nat) (ρ : List Int) (vals rest : List Value) (pc : Nat) (ls : Array Slot), sv_Pre P D AC kd B0 sp κ H ρ vals → (∀ q, q < s.heap.size → κ q = κ0 q) → (∀ (q : Nat) (c : Cell), s.heap[q]? = some c → κ0 q = 0 → H[q]? = some c) → s.heap.size ≤ H.size → ls.size = nL → (rest.map fun v => v.category).sum ≤ 8 → decode cc pc = .ok (sv_inv op idx, 3) → cells + sp.2.2.2.2.2.2.2.1 ≤ R.cells ∧ slots + sp.2.2.2.2.2.2.2.2 ≤ R.slots →
    va_Run p l e R s m args below meth c H locs cells slots sp.2.2.2.2.2.2.2.1 sp.2.2.2.2.2.2.2.2 (F0 m pc ls (vals.reverse ++ rest)) rest (fun _ o t => ∃ v, o = .returned v ∧ sv_Post P D AC kd B0 sp κ H ρ vals v t.heap) (sv_free B0 κ H.size)
theorem sv_Fr_tr2 {D : va_G} {kd : List SvK} {mF mA mF' mA' : List Nat} {κ0 κ : Nat → Nat} {H0 H H' : Heap} (h : sv_Fr D kd mF mA κ0 H0 H) (hk : ∀ q, q < H0.size → κ q = κ0 q) (h' : sv_Fr D kd mF' mA' κ H H') (hF : ∀ a ∈ mF', a ∈ mF) (hA : ∀ a ∈ mA', a ∈ mA) : sv_Fr D kd mF mA κ0 H0 H' := by
  intro q c0 hc
  obtain ⟨c1, g1, g2, g3, g4, g5, g6⟩ := h q c0 hc
  obtain ⟨c2, f1, f2, f3, f4, f5, f6⟩ := h' q c1 g1
  have e0 := hk q (sv_lt hc)
  refine ⟨c2, f1, f2.trans g2, f3.trans g3, f4.trans g4, fun z => (f5 (e0.trans z)).trans (g5 z), fun K hK => ⟨fun k0 f hf hn => ?_, fun k1 hn => ?_⟩⟩
  · exact ((f6 K (by rw [e0]; exact hK)).1 k0 f hf (fun z => hn (hF _ z))).trans ((g6 K hK).1 k0 f hf hn)
  · exact ((f6 K (by rw [e0]; exact hK)).2 k1 (fun z => hn (by rw [← e0]; exact hA _ z))).trans ((g6 K hK).2 k1 hn)
theorem sv_tk_ok {ρ : List Int} : ∀ {n : Nat} {acc l vals rest : List SvA} {va st : List Value}, sv_tk n acc l = some (vals, rest) → sv_StOk ρ acc va → sv_StOk ρ l st → ∃ vv vr, sv_StOk ρ vals vv ∧ sv_StOk ρ rest vr ∧ va.reverse ++ st = vv.reverse ++ vr
  | 0, acc, l, vals, rest, va, st, h, h1, h2 => by
    simp only [sv_tk, Option.some.injEq, Prod.mk.injEq] at h
    obtain ⟨rfl, rfl⟩ := h
    exact ⟨va, st, h1, h2, rfl⟩
  | n + 1, acc, [], vals, rest, va, st, h, _, _ => by simp [sv_tk] at h
  | n + 1, acc, a :: l, vals, rest, va, st, h, h1, h2 => by
    simp only [sv_tk] at h
    obtain ⟨v, vs, rfl, g1, g2⟩ := sv_StOk_cons h2
    obtain ⟨vv, vr, f1, f2, f3⟩ := sv_tk_ok (va := v :: va) h ⟨g1, h1⟩ g2
    exact ⟨vv, vr, f1, f2, by rw [← f3]; simp⟩
theorem sv_cats_ok {ρ : List Int} : ∀ {l : List SvA} {st : List Value}, sv_StOk ρ l st → (st.map fun v => v.category).sum = sv_cats l
  | [], st, h => by rw [sv_StOk_nil h]; rfl
  | a :: l, st, h => by
    obtain ⟨v, vs, rfl, g1, g2⟩ := sv_StOk_cons h
    have ih := sv_cats_ok g2
    simp only [List.map_cons, List.sum_cons, sv_cats, ih]
    show v.category + sv_cats l = (bif Nat.beq a.1 2 then 2 else 1) + sv_cats l
    rw [sv_cat g1]
    cases hq : Nat.beq a.1 2 with
    | true => rw [if_pos (Nat.eq_of_beq_eq_true hq)]; rfl
    | false => rw [if_neg (fun z => by rw [z] at hq; cases hq)]; rfl
theorem sv_StOk_len {ρ : List Int} : ∀ {as : List SvA} {vs : List Value}, sv_StOk ρ as vs → vs.length = as.length
  | [], vs, h => by rw [sv_StOk_nil h]; rfl
  | a :: as, vs, h => by
    obtain ⟨v, vs', rfl, -, h2⟩ := sv_StOk_cons h
    simp [sv_StOk_len h2]
theorem sv_evs_appl {ρ : List Int} : ∀ {σ σ' : List SvL} {τ τ' : List Int}, sv_evs ρ σ = some τ → sv_evs ρ σ' = some τ' → sv_evs ρ (sv_appl σ σ') = some (τ ++ τ')
  | [], σ', τ, τ', h1, h2 => by
    simp only [sv_evs, Option.some.injEq] at h1
    subst h1
    exact h2
  | x :: t, σ', τ, τ', h1, h2 => by
    obtain ⟨a, b, g1, g2, rfl⟩ := sv_evs_cons.mp h1
    exact sv_evs_cons.mpr ⟨_, _, g1, sv_evs_appl g2 h2, rfl⟩
theorem sv_evs_vsF : ∀ {ρ τ : List Int}, sv_evs (ρ ++ τ) (sv_vsF ρ.length τ.length) = some τ
  | ρ, [] => rfl
  | ρ, x :: τ => by
    have ih := @sv_evs_vsF (ρ ++ [x]) τ
    rw [List.append_assoc, List.length_append] at ih
    exact sv_evs_cons.mpr ⟨x, τ, sv_ev_v (by rw [sv_nth_eq]; simp), ih, rfl⟩
/-- bounds of the numbers behind -/
theorem sv_BOk_cut {ρ τ : List Int} {b q : List SvB} (h0 : ρ.length = b.length) (h : sv_BOk (ρ ++ τ) (b ++ q)) {ρ' : List Int} {b' : List SvB} (h' : sv_BOk ρ' b') : sv_BOk (ρ' ++ τ) (b' ++ q) := by
  have hl : τ.length = q.length := by
    have := h.1
    simp only [List.length_append] at this
    omega
  refine ⟨by simp [h'.1, hl], fun i y z hy hz => ?_⟩
  by_cases hi : i < ρ'.length
  · rw [sv_nth_eq, List.getElem?_append_left hi, ← sv_nth_eq] at hy
    rw [sv_nth_eq, List.getElem?_append_left (by rw [← h'.1]; exact hi), ← sv_nth_eq] at hz
    exact h'.2 i y z hy hz
  · rw [sv_nth_eq, List.getElem?_append_right (by omega)] at hy
    rw [sv_nth_eq, List.getElem?_append_right (by rw [← h'.1]; omega)] at hz
    refine h.2 (ρ.length + (i - ρ'.length)) y z ?_ ?_
    · rw [sv_nth_eq, List.getElem?_append_right (by omega)]
      rw [← hy]
      congr 1
      omega
    · rw [sv_nth_eq, List.getElem?_append_right (by omega)]
      rw [← hz, ← h0, ← h'.1]
      congr 1
      omega
section SVY
variable {p : Program} {l : Launch} {e : Env} {R : Room} {s : State} {m : MethodId} {args : Array Value} {below : List Frame} {meth : Method} {c : Code} {Q : State → Prop}
variable {P : Nat → List Nat → List Int → (Nat → Nat) → Heap → Prop} {D : va_G} {AC : Nat → ClassId} {kd : List SvK} {B0 : Nat} {κ0 : Nat → Nat} {mF mA : List Nat} {Px : List Int → Prop} {nL : Nat} {cc : ByteArray} {pc n : Nat} {w w' : List Nat} {S : SvS} {r : List (SvS × Nat)} {sup : Nat → List Nat × List Nat} {mc ms : Nat}
theorem sv_gain_ok {κ : Nat → Nat} {H : Heap} {ρ τ : List Int} {ls : Array Slot} {st : List Value} {σ : List SvL} (hσ : sv_evs ρ σ = some τ) : ∀ {fs : List SvF} {S S' : SvS}, sv_gain σ fs S = some S' → (∀ f ∈ fs, sv_FOk P D kd κ H τ f) → sv_Sat P D kd κ H ρ nL ls st S → sv_Sat P D kd κ H ρ nL ls st S'
  | [], S, S', h, _, hS => by
    simp only [sv_gain, Option.some.injEq] at h
    subst h
    exact hS
  | f :: fs, S, S', h, hf, hS => by
    simp only [sv_gain] at h
    have hf' := fun g hg => hf g (List.mem_cons_of_mem _ hg)
    obtain ⟨vs, v1, v2⟩ := hf f List.mem_cons_self
    split at h
    · rename_i es he
      obtain ⟨ys, y1, y2⟩ := sv_sus_ok hσ he
      rw [v1] at y1
      cases y1
      cases h0 : Nat.beq f.1 0 with
      | true =>
        rw [h0] at h
        simp only [cond_true] at h
        have e0 := Nat.eq_of_beq_eq_true h0
        split at h
        · rename_i x
          obtain ⟨z1, z2, f3, f4, rfl⟩ := sv_evs_cons.mp y2
          simp only [sv_evs, Option.some.injEq] at f4
          subst f4
          rw [e0] at v2
          have v2 : 0 ≤ z1 := v2
          exact sv_gain_ok hσ h hf' (sv_asm_ok hS f3 v2)
        · simp at h
      | false =>
        rw [h0] at h
        simp only [cond_false] at h
        refine sv_gain_ok hσ h hf' ⟨hS.1, hS.2.1, hS.2.2.1, fun g hg => ?_⟩
        rcases List.mem_cons.mp hg with rfl | hg
        · exact ⟨vs, y2, v2⟩
        · exact hS.2.2.2 g hg
    · simp at h
theorem sv_outs_ok {κ : Nat → Nat} {H : Heap} {ρ ρc τ : List Int} {ls : Array Slot} {st' : List Value} {σ : List SvL} {b bc : List SvB} {lo : List (Nat × SvA)} {rest : List SvA} {fs : List SvF} {pc' : Nat} {o : Option Value} (hσ : sv_evs ρ σ = some ρc) (hc : ρc.length = bc.length) (hb : sv_BOk ρ b) (hlo : ∃ lv, lv_has ls nL lv ∧ sv_LoOk ρ lo lv) (hre : sv_StOk ρ rest st') (hfs : ∀ f ∈ fs, sv_FOk P D kd κ H ρ f) :
    ∀ {ws : List SvW} {r : List (SvS × Nat)}, sv_outs σ b lo rest fs pc' ws = some r → ∀ w ∈ ws, sv_BOk (ρc ++ τ) (bc ++ w.1) → (∀ f ∈ w.2.1, sv_FOk P D kd κ H (ρc ++ τ) f) → sv_Ans (ρc ++ τ) w.2.2 o → ∃ q ∈ r, q.2 = pc' ∧ sv_Sat P D kd κ H (ρ ++ τ) nL ls (o.toList ++ st') q.1
  | [], r, _, w, hw, _, _, _ => by cases hw
  | x :: ws, r, h, w, hw, h1, h2, h3 => by
    unfold sv_outs at h
    split at h
    · rename_i t ht
      split at h
      · rename_i st2 hst
        split at h
        · rename_i S' hg
          simp only [Option.some.injEq] at h
          subst h
          rcases List.mem_cons.mp hw with rfl | hw
          · refine ⟨_, List.mem_cons_self, rfl, ?_⟩
            have hl : τ.length = w.1.length := by
              have := h1.1
              simp only [List.length_append] at this
              omega
            have hσ' : sv_evs (ρ ++ τ) (sv_appl σ (sv_vsF (sv_len b) (sv_len w.1))) = some (ρc ++ τ) := by
              rw [sv_len_eq, sv_len_eq, ← hl, ← hb.1]
              exact sv_evs_appl (sv_evs_app hσ) sv_evs_vsF
            obtain ⟨lv, l1, l2⟩ := hlo
            refine sv_gain_ok hσ' hg h2 ⟨?_, ⟨lv, l1, sv_LoOk_app l2⟩, ?_, fun f hf => sv_FOk_app (hfs f hf)⟩
            · rw [sv_appb_eq]
              exact sv_BOk_cut hc h1 hb
            · cases ho : w.2.2 with
              | none =>
                rw [ho] at hst h3
                simp only [Option.some.injEq] at hst
                subst hst
                cases o with
                | none => exact sv_StOk_app hre
                | some v => exact h3.elim
              | some a =>
                rw [ho] at hst h3
                cases o with
                | none => exact h3.elim
                | some v =>
                  have h3 : sv_VOk (ρc ++ τ) a v := h3
                  dsimp only at hst
                  split at hst
                  · rename_i x hx
                    simp only [Option.some.injEq] at hst
                    subst hst
                    obtain ⟨y, y1, y2⟩ := sv_su_ok hσ' hx
                    rw [h3.2.2] at y1
                    cases y1
                    exact ⟨⟨h3.1, h3.2.1, y2⟩, sv_StOk_app hre⟩
                  · simp at hst
          · obtain ⟨q, q1, q2⟩ := sv_outs_ok hσ hc hb hlo hre hfs ht w hw h1 h2 h3
            exact ⟨q, List.mem_cons_of_mem _ q1, q2⟩
        · simp at h
      · simp at h
    · simp at h
theorem sv_call_ok (hP : sv_PF P sup D kd) (hP01 : ∀ ρ, Px ρ → sv_nth ρ 0 = some (s.heap.size : Int) ∧ sv_nth ρ 1 = some (sv_slots s.heap : Int)) (hPx : ∀ ρ τ, Px ρ → Px (ρ ++ τ)) (hmc : mc ≤ R.cells) (hms : ms ≤ R.slots) {lkC : List (Nat × Nat × SvP)} (hLC : ∀ idx op sp, (idx, (op, sp)) ∈ lkC → sv_Cal p l e R s m args below meth c P D AC kd B0 κ0 nL cc op idx sp) {op idx : Nat} (hd : decode cc pc = .ok (sv_inv op idx, 3)) (h : sv_call sup mF mA mc ms lkC S op idx pc w = some (r, w')) (hk : ∀ q ∈ r, sv_Good p l e R s m args below meth c Q P D AC kd B0 κ0 mF mA Px nL q.1 q.2) : sv_Good p l e R s m args below meth c Q P D AC kd B0 κ0 mF mA Px nL S pc := by
  unfold sv_call at h
  split at h
  · rename_i op' sp j7 j8 w1 hlk
    split at h
    · rename_i hh h7
      split at h
      · rename_i sl h8
        split at h
        · rename_i vals rest htk
          cases hop : Nat.beq op' op with
          | false => rw [hop] at h; cases h
          | true =>
            rw [hop] at h
            simp only [cond_true] at h
            have hop := Nat.eq_of_beq_eq_true hop
            subst hop
            unfold sv_callA at h
            split at h
            · rename_i es w2 hes
              cases hq : (sv_wfs (sv_len S.1) (hh :: sl :: es) && sv_mst (hh :: sl :: es) sp.2.1 vals && Nat.ble (sv_cats rest) 8 && sv_all mF sp.2.2.2.1 && sv_all mA sp.2.2.2.2.1) with
              | false => rw [hq] at h; cases h
              | true =>
                rw [hq] at h
                simp only [cond_true] at h
                simp only [Bool.and_eq_true] at hq
                obtain ⟨⟨⟨⟨q1, q2⟩, q3⟩, q4⟩, q5⟩ := hq
                rw [sv_len_eq] at q1
                split at h
                · rename_i w3 hmf
                  split at h
                  · rename_i w4 hp1
                    split at h
                    · rename_i w5 hp2
                      split at h
                      · rename_i w6 hp3
                        split at h
                        · rename_i r' hou
                          simp only [Option.some.injEq, Prod.mk.injEq] at h
                          obtain ⟨rfl, -⟩ := h
                          intro κ H locs ρ ls st hI hPx0 hS
                          obtain ⟨p0, p1⟩ := hP01 ρ hPx0
                          have e7 := sv_f7_ok hS h7
                          have e8 := sv_f8_ok hS h8
                          obtain ⟨vv, vr, t1, t2, t3⟩ := sv_tk_ok (va := []) htk trivial hS.2.2.1
                          have t3 : st = vv.reverse ++ vr := t3
                          obtain ⟨ρc, c1, c2, c3⟩ := sv_matchF_ok hS q1 hmf
                          obtain ⟨z1, z2, d1, d2, rfl⟩ := sv_evs_cons.mp c1
                          obtain ⟨z3, z4, d3, d4, rfl⟩ := sv_evs_cons.mp d2
                          rw [e7] at d1
                          cases d1
                          rw [e8] at d3
                          cases d3
                          have g1 := sv_pos_ok hS (sv_ev_addc (sv_ev_sub (sv_ev_v p0) e7)) hp1
                          have g2 := sv_pos_ok hS (sv_ev_addc (sv_ev_sub (sv_ev_v p1) e8)) hp2
                          have g1 : 0 ≤ (s.heap.size : Int) - (H.size : Int) + ((mc : Int) - ((sp.2.2.2.2.2.2.2.1 : Nat) : Int)) := g1
                          have g2 : 0 ≤ (sv_slots s.heap : Int) - (sv_slots H : Int) + ((ms : Int) - ((sp.2.2.2.2.2.2.2.2 : Nat) : Int)) := g2
                          have hpre : sv_Pre P D AC kd B0 sp κ H ((H.size : Int) :: (sv_slots H : Int) :: z4) vv := ⟨hI.1, rfl, rfl, c2, sv_mst_ok c1 q2 t1, c3⟩
                          have i5 := hI.2.2.2.2.1
                          have i6 := hI.2.2.2.2.2
                          have hls : ls.size = nL := by
                            obtain ⟨lv, l1, -⟩ := hS.2.1
                            exact l1.1
                          have hrun := hLC _ _ _ (sv_lkn_ok hlk) κ H locs (H.size - s.heap.size) (sv_slots H - sv_slots s.heap) _ vv vr pc ls hpre hI.2.1 (fun q c0 hc hk0 => by obtain ⟨c1, g1, -, -, -, g5, -⟩ := hI.2.2.1 q c0 hc; rw [g1, g5 hk0]) i5 hls (by rw [sv_cats_ok t2]; exact Nat.le_of_ble_eq_true q3) hd ⟨by omega, by omega⟩
                          rw [t3]
                          intro T hT X
                          obtain ⟨v, st₀, t, T', L, h0, X', hL, e1, e2, ⟨v', hv, hpost⟩, stp⟩ := hrun T hT X
                          cases hv
                          rw [← e1] at hpost
                          obtain ⟨κ', k1, k2, k3, k4, k5, wo, k6, τ, k7, k8, k9⟩ := hpost
                          have hkeep : ∀ q, q < s.heap.size → κ' q = κ0 q := fun q hq => by
                            rcases k4 q (by omega) with k4 | ⟨k4, k10⟩
                            · rw [k4]; exact hI.2.1 q hq
                            · exfalso
                              cases hnil : sp.2.2.2.2.2.1 with
                              | nil => rw [hnil] at k10; cases k10
                              | cons a0 l0 =>
                                rw [hnil] at hp3
                                have hp3 : sv_pos S (sv_sub (sv_this vals) (sv_v 0)) w5 = some w6 := hp3
                                cases vals with
                                | nil =>
                                  rw [sv_StOk_nil t1] at k4
                                  cases k4
                                | cons a1 l1 =>
                                  obtain ⟨v1, vs1, rfl, u1, u2⟩ := sv_StOk_cons t1
                                  simp only [List.head?_cons, Option.some.injEq] at k4
                                  subst k4
                                  have u3 := sv_pos_ok hS (sv_ev_sub u1.2.2 (sv_ev_v p0)) hp3
                                  have u3 : 0 ≤ (q : Int) - (s.heap.size : Int) := u3
                                  omega
                          have hI' : sv_Inv s D AC kd B0 κ0 mF mA κ' T'.heap (locs ++ L) := ⟨k1, hkeep, sv_Fr_tr2 hI.2.2.1 hI.2.1 k2 (sv_all_mem q4) (sv_all_mem q5), fun x hx => by
                            rcases List.mem_append.mp hx with hx | hx
                            · exact hI.2.2.2.1 x hx
                            · rcases hL x hx with ⟨f1, f2⟩ | f1
                              · by_cases hq : x.base < s.heap.size
                                · exact Or.inl ⟨f1, by rw [← hI.2.1 _ hq]; exact f2⟩
                                · exact Or.inr (Nat.le_of_not_lt hq)
                              · exact Or.inr (Nat.le_trans i5 f1), by omega, by omega⟩
                          have hmv : sv_Mv sp.2.2.2.2.2.1 κ H κ' T'.heap := sv_Fr_mv k2 k3 (fun q hq => by
                            rcases k4 q hq with k4 | ⟨-, k4⟩
                            · exact Or.inl k4
                            · exact Or.inr k4)
                          have hfs := sv_kps_ok (g := true) hP k2 hmv (fun z => by cases z) hS.2.2.2
                          obtain ⟨lv, l1, l2⟩ := hS.2.1
                          obtain ⟨q, qr, qpc, qS⟩ := sv_outs_ok c1 c2.1 hS.1 ⟨lv, l1, l2⟩ t2 hfs hou wo k6 k7 k8 k9
                          have hW := hk q qr κ' T'.heap (locs ++ L) (ρ ++ τ) ls _ hI' (hPx _ _ hPx0) qS
                          rw [qpc] at hW
                          obtain ⟨t2', a1, b1⟩ := sv_tight hW T' rfl X'
                          exact ⟨t2', stp t2' a1, b1⟩
                        · simp at h
                      · simp at h
                    · simp at h
                  · simp at h
                · simp at h
            · simp at h
        · simp at h
      · simp at h
    · simp at h
  · simp at h
theorem sv_Y_ok (hP : sv_PF P sup D kd) (hP01 : ∀ ρ, Px ρ → sv_nth ρ 0 = some (s.heap.size : Int) ∧ sv_nth ρ 1 = some (sv_slots s.heap : Int)) (hPx : ∀ ρ τ, Px ρ → Px (ρ ++ τ)) (hmc : mc ≤ R.cells) (hms : ms ≤ R.slots) {lkC : List (Nat × Nat × SvP)} (hLC : ∀ idx op sp, (idx, (op, sp)) ∈ lkC → sv_Cal p l e R s m args below meth c P D AC kd B0 κ0 nL cc op idx sp) {i : Instr} (hd : decode cc pc = .ok (i, n)) (h : sv_Y sup mF mA mc ms lkC S pc i n w = some (r, w')) (hk : ∀ q ∈ r, sv_Good p l e R s m args below meth c Q P D AC kd B0 κ0 mF mA Px nL q.1 q.2) : sv_Good p l e R s m args below meth c Q P D AC kd B0 κ0 mF mA Px nL S pc := by
  unfold sv_Y at h
  split at h
  · rename_i idx
    cases hq : Nat.beq n 3 with
    | false => rw [hq] at h; cases h
    | true =>
      rw [hq] at h
      have hn := Nat.eq_of_beq_eq_true hq
      subst hn
      exact sv_call_ok (op := 0) hP hP01 hPx hmc hms hLC hd h hk
  · rename_i idx
    cases hq : Nat.beq n 3 with
    | false => rw [hq] at h; cases h
    | true =>
      rw [hq] at h
      have hn := Nat.eq_of_beq_eq_true hq
      subst hn
      exact sv_call_ok (op := 1) hP hP01 hPx hmc hms hLC hd h hk
  · rename_i idx
    cases hq : Nat.beq n 3 with
    | false => rw [hq] at h; cases h
    | true =>
      rw [hq] at h
      have hn := Nat.eq_of_beq_eq_true hq
      subst hn
      exact sv_call_ok (op := 2) hP hP01 hPx hmc hms hLC hd h hk
  · simp at h
end SVY
