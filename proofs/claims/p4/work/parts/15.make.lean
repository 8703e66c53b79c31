-- ===== array stores; new cells =====
/-- which facts of elements stay behind a store at place i of array a: fact's place, 0 i' < i | 1 i < i' | 2 a' < a | 3 a < a', a certificate -/
def sv_dif (md : Nat) (a i a' i' : SvL) : SvL := match md with
  | 0 => sv_addc (sv_sub i i') (-1)
  | 1 => sv_addc (sv_sub i' i) (-1)
  | 2 => sv_addc (sv_sub a a') (-1)
  | _ => sv_addc (sv_sub a' a) (-1)
def sv_els (sl : Nat → List Nat → Option (List SvF × List Nat)) (S : SvS) (a i : SvL) : Nat → List Nat → Option (List SvF × List Nat)
  | 0, w => some ([], w)
  | n + 1, w => match w with
    | m :: md :: w1 => bif Nat.beq md 5 then (match sl m w1 with
      | some (l0, w2) => match sv_els sl S a i n w2 with
        | some (l, w3) => some (l0 ++ l, w3)
        | none => none
      | none => none) else match sv_nth S.2.2.2 m with
      | some (4, [K', t], [a', i', x]) => match sv_rcert w1 with
        | some (c, w2) => bif sv_prove S.1 S.2.2.2 c (sv_dif md a i a' i') then (match sv_els sl S a i n w2 with
            | some (l, w3) => some ((4, [K', t], [a', i', x]) :: l, w3)
            | none => none) else none
        | none => none
      | _ => none
    | _ => none
/-- no null is stored -/
def sv_Tn (T : SvT) : SvT := bif Nat.beq T.1 3 then (T.1, T.2.1, T.2.2.1, T.2.2.2.1, false) else T
theorem sv_Tn_ok {κ : Nat → Nat} {z : Nat} {T : SvT} {v : Value} (h : sv_FtOk κ z (sv_Tn T) v) : sv_FtOk κ z T v := by
  unfold sv_Tn at h
  cases hq : Nat.beq T.1 3 with
  | false => rw [hq] at h; exact h
  | true =>
    rw [hq] at h
    obtain ⟨h1, h2, h3⟩ := h
    refine ⟨h1, h2, fun ht => ?_⟩
    rcases h3 ht with ⟨-, h4⟩ | h4
    · cases h4
    · exact Or.inr h4
/-- a store: as sv_ax; 0 and the type | 1 a byte, any number; may; how many facts of elements stay, and which -/
def sv_as (sl : SvS → Nat → Nat → SvL → SvL → SvL → Nat → List Nat → Option (List SvF × List Nat)) (sup : Nat → List Nat × List Nat) (mA : List Nat) (kd : List SvK) (S : SvS) (rest : List SvA) (a i : SvL) (t : Nat) (x : SvL) (ok : Nat → SvT → Bool) (byt : Bool) (pc : Nat) (w : List Nat) : Option (List (SvS × Nat) × List Nat) := match sv_ax kd S a i w with
  | some (K, k, md :: w1) => match sv_nth k.2.2.1 0 with
    | some T0 => match (bif Nat.beq md 0 then sv_ty S t x (sv_Tn T0) w1 else bif Nat.beq md 1 && Nat.beq t 1 && byt && Nat.beq k.2.1 1 && Nat.beq (sv_Tn T0).1 1 && sv_le (sv_Tn T0).2.1 (-128) && sv_le 127 (sv_Tn T0).2.2.1 then some w1 else none) with
      | some w2 => match sv_may S a K mA w2 with
        | some w20 => (match sv_ga S K md i x w20 with
        | some (ne :: w3) => match sv_els (bif Nat.beq md 0 then sl S K t a i x else fun _ _ => none) S a i ne w3 with
          | some (fl, w4) => bif ok k.2.1 (sv_Tn T0) && !k.2.2.2.2.2.2 && sv_tok (sv_Tn T0) then some ([((S.1, S.2.1, rest, (bif Nat.beq md 0 then (4, [K, t], [a, i, x]) :: (fl ++ sv_kps sup [] [K] [] false S.2.2.2) else fl ++ sv_kps sup [] [K] [] false S.2.2.2)), pc + 1)], w4) else none
          | none => none
        | _ => none)
        | none => none
      | none => none
    | none => none
  | _ => none
def sv_b01 (T : SvT) : Bool := sv_le 0 T.2.1 && sv_le T.2.2.1 1
def sv_bb (T : SvT) : Bool := sv_le (-128) T.2.1 && sv_le T.2.2.1 127
/-- what the store of an array takes -/
def sv_okI (e : Nat) (_ : SvT) : Bool := Nat.beq e 0
def sv_okB (e : Nat) (T : SvT) : Bool := bif Nat.beq e 1 then sv_bb T else Nat.beq e 2 && sv_b01 T
def sv_okC (e : Nat) (T : SvT) : Bool := Nat.beq e 4 && Nat.beq T.1 1 && sv_le 0 T.2.1 && sv_le T.2.2.1 127
def sv_okL (e : Nat) (_ : SvT) : Bool := Nat.beq e 3
/-- of references: the kind that is stored is an object of the class of which the array is -/
def sv_okA (ecl : List (Nat × Nat)) (kd : List SvK) (e : Nat) (T : SvT) : Bool := Nat.beq T.1 3 && !T.2.2.2.2 && (match sv_nth kd T.2.2.2.1 with
  | some k => Nat.beq k.1 0 && (match sv_lk ecl k.2.1 with
    | some j => Nat.beq (j + 5) e
    | none => false)
  | none => false)
def sv_Ws (sl : SvS → Nat → Nat → SvL → SvL → SvL → Nat → List Nat → Option (List SvF × List Nat)) (sup : Nat → List Nat × List Nat) (mA : List Nat) (ecl : List (Nat × Nat)) (kd : List SvK) (S : SvS) (pc : Nat) (i : Instr) (n : Nat) (w : List Nat) : Option (List (SvS × Nat) × List Nat) := bif Nat.beq n 1 then (match i with
  | .iastore => match S.2.2.1 with | (1, x) :: (1, i) :: (3, a) :: r => sv_as sl sup mA kd S r a i 1 x sv_okI false pc w | _ => none
  | .bastore => match S.2.2.1 with | (1, x) :: (1, i) :: (3, a) :: r => sv_as sl sup mA kd S r a i 1 x sv_okB true pc w | _ => none
  | .lastore => match S.2.2.1 with | (2, x) :: (1, i) :: (3, a) :: r => sv_as sl sup mA kd S r a i 2 x sv_okL false pc w | _ => none
  | .aastore => match S.2.2.1 with | (3, x) :: (1, i) :: (3, a) :: r => sv_as sl sup mA kd S r a i 3 x (sv_okA ecl kd) false pc w | _ => none
  | .castore => match S.2.2.1 with | (1, x) :: (1, i) :: (3, a) :: r => sv_as sl sup mA kd S r a i 1 x sv_okC false pc w | _ => none
  | _ => none) else none
/-- what a law of stores must keep -/
def sv_Sl (P : Nat → List Nat → List Int → (Nat → Nat) → Heap → Prop) (D : va_G) (AC : Nat → ClassId) (kd : List SvK) (B0 : Nat) (sl : SvS → Nat → Nat → SvL → SvL → SvL → Nat → List Nat → Option (List SvF × List Nat)) : Prop :=
  ∀ (S : SvS) (K t : Nat) (a i x : SvL) (m : Nat) (w w' : List Nat) (l : List SvF), sl S K t a i x m w = some (l, w') → ∀ (κ : Nat → Nat) (H H' : Heap) (ρ : List Int) (nL : Nat) (ls : Array Slot) (st : List Value) (q j : Nat) (cell : Cell) (v : Value), sv_TI D AC kd B0 κ H → sv_Sat P D kd κ H ρ nL ls st S → sv_ev ρ a = some (q : Int) → sv_ev ρ i = some (j : Int) → sv_VOk ρ (t, x) v → κ q = K → K ≠ 0 → sv_St H H' q j cell v → ∀ f ∈ l, sv_FOk P D kd κ H' ρ f
section SVL
variable {P : Nat → List Nat → List Int → (Nat → Nat) → Heap → Prop} {D : va_G} {AC : Nat → ClassId} {kd : List SvK} {B0 : Nat} {κ : Nat → Nat} {H H' : Heap} {ρ : List Int} {nL : Nat} {ls : Array Slot} {st : List Value} {S : SvS}
theorem sv_els_ok {sl : Nat → List Nat → Option (List SvF × List Nat)} (hsl : ∀ m w l w', sl m w = some (l, w') → ∀ f ∈ l, sv_FOk P D kd κ H' ρ f) (hS : sv_Sat P D kd κ H ρ nL ls st S) {a i : SvL} {q j : Nat} {cell : Cell} {v : Value} (ha : sv_ev ρ a = some (q : Int)) (hi : sv_ev ρ i = some (j : Int)) (hst : sv_St H H' q j cell v) : ∀ {n : Nat} {w : List Nat} {l : List SvF} {w' : List Nat}, sv_els sl S a i n w = some (l, w') → ∀ f ∈ l, sv_FOk P D kd κ H' ρ f
  | 0, w, l, w', h, f, hf => by
    simp only [sv_els, Option.some.injEq, Prod.mk.injEq] at h
    obtain ⟨rfl, -⟩ := h
    cases hf
  | n + 1, w, l, w', h, f, hf => by
    simp only [sv_els] at h
    split at h
    · rename_i m md w1
      cases h5 : Nat.beq md 5 with
      | true =>
        simp only [h5, cond_true] at h
        split at h
        · rename_i l0 w2 h0
          split at h
          · rename_i l1 w3 hl
            simp only [Option.some.injEq, Prod.mk.injEq] at h
            obtain ⟨rfl, -⟩ := h
            rcases List.mem_append.mp hf with hf | hf
            · exact hsl m w1 l0 w2 h0 f hf
            · exact sv_els_ok hsl hS ha hi hst hl f hf
          · cases h
        · cases h
      | false =>
      simp only [h5, cond_false] at h
      split at h
      · rename_i K' t a' i' x hm
        split at h
        · rename_i c w2 hc
          cases hp : sv_prove S.1 S.2.2.2 c (sv_dif md a i a' i') with
          | false => rw [hp] at h; cases h
          | true =>
            rw [hp] at h
            simp only [cond_true] at h
            split at h
            · rename_i l1 w3 hl
              simp only [Option.some.injEq, Prod.mk.injEq] at h
              obtain ⟨rfl, -⟩ := h
              rcases List.mem_cons.mp hf with rfl | hf
              · obtain ⟨vs, f1, f2⟩ := hS.2.2.2 _ (List.mem_of_getElem? (by rw [← sv_nth_eq]; exact hm))
                obtain ⟨y1, z1, f3, f4, rfl⟩ := sv_evs_cons.mp f1
                obtain ⟨y2, z2, f5, f6, rfl⟩ := sv_evs_cons.mp f4
                obtain ⟨y3, z3, f7, f8, rfl⟩ := sv_evs_cons.mp f6
                simp only [sv_evs, Option.some.injEq] at f8
                subst f8
                refine ⟨_, f1, f2.1, f2.2.1, fun q' j' hq hj => ?_⟩
                obtain ⟨g1, c2, g2, g3⟩ := f2.2.2 q' j' hq hj
                subst hq
                subst hj
                have hd : q' ≠ q ∨ j' ≠ j := by
                  unfold sv_dif at hp
                  split at hp
                  · have := sv_prove_ok hS.1 hS.2.2.2 (sv_ev_addc (sv_ev_sub hi f5)) hp
                    exact Or.inr (by omega)
                  · have := sv_prove_ok hS.1 hS.2.2.2 (sv_ev_addc (sv_ev_sub f5 hi)) hp
                    exact Or.inr (by omega)
                  · have := sv_prove_ok hS.1 hS.2.2.2 (sv_ev_addc (sv_ev_sub ha f3)) hp
                    exact Or.inl (by omega)
                  · have := sv_prove_ok hS.1 hS.2.2.2 (sv_ev_addc (sv_ev_sub f3 ha)) hp
                    exact Or.inl (by omega)
                by_cases hqq : q' = q
                · subst hqq
                  have hjj : j ≠ j' := by
                    rcases hd with h1 | h1
                    · exact absurd rfl h1
                    · exact Ne.symm h1
                  rw [hst.1] at g2
                  cases g2
                  refine ⟨g1, _, hst.2.2.1, fun hlt => ?_⟩
                  rw [sv_setSlot_size] at hlt
                  rw [sv_setSlot_get _ _ _ _ hst.2.1, if_neg hjj]
                  exact g3 hlt
                · exact ⟨g1, c2, by rw [hst.2.2.2.2 q' hqq]; exact g2, g3⟩
              · exact sv_els_ok hsl hS ha hi hst hl f hf
            · simp at h
        · simp at h
      · simp at h
    · simp at h
end SVL
section SVM
variable {p : Program} {l : Launch} {e : Env} {R : Room} {s : State} {m : MethodId} {args : Array Value} {below : List Frame} {meth : Method} {c : Code} {Q : State → Prop}
variable {P : Nat → List Nat → List Int → (Nat → Nat) → Heap → Prop} {D : va_G} {AC : Nat → ClassId} {kd : List SvK} {B0 : Nat} {κ0 : Nat → Nat} {mF mA : List Nat} {Px : List Int → Prop} {nL : Nat} {cc : ByteArray} {pc n : Nat} {w w' : List Nat} {S : SvS} {r : List (SvS × Nat)} {sup : Nat → List Nat × List Nat}
theorem sv_as_ok {sl : SvS → Nat → Nat → SvL → SvL → SvL → Nat → List Nat → Option (List SvF × List Nat)} (hsl : sv_Sl P D AC kd B0 sl) (hP : sv_PF P sup D kd) (hiv : sv_ivs kd) (h00 : ∀ ρ, Px ρ → sv_nth ρ 0 = some (s.heap.size : Int)) {rest : List SvA} {a i x : SvL} {t : Nat} {ok : Nat → SvT → Bool} {byt : Bool} (hst : S.2.2.1 = (t, x) :: (1, i) :: (3, a) :: rest) (h : sv_as sl sup mA kd S rest a i t x ok byt pc w = some (r, w')) (hk : ∀ q ∈ r, sv_Good p l e R s m args below meth c Q P D AC kd B0 κ0 mF mA Px nL q.1 q.2)
    (hr : ∀ (κ : Nat → Nat) (H : Heap) (locs : List Loc) (cells slots : Nat) (ls : Array Slot) (st : List Value) (q : Nat) (y : Int32) (cell : Cell) (v : Value) (k : SvK) (T : SvT), sv_TI D AC kd B0 κ H → sv_tag v = t → ok k.2.1 T = true → sv_tok T = true → (sv_FtOk κ H.size T v ∨ (byt = true ∧ k.2.1 = 1)) → H[q]? = some cell → cell.cls = AC k.2.1 → cell.vm = .none → ¬ (y < 0 ∨ cell.slots.size ≤ y.toNatClampNeg) →
      ∃ u, (sv_FtOk κ H.size T v → u = v) ∧ (byt = true → k.2.1 = 1 → sv_tag u = 1 ∧ -128 ≤ sv_enc u ∧ sv_enc u ≤ 127) ∧ ((∀ H' : Heap, H'[q]? = some (cell.setSlot y.toNatClampNeg u) → H'.size = H.size → (∀ x, x ≠ q → H'[x]? = H[x]?) → W p l e R s m args below meth c H' (locs ++ [⟨q, y.toNatClampNeg⟩]) cells slots Q (F0 m (pc + 1) ls st)) → W p l e R s m args below meth c H locs cells slots Q (F0 m pc ls (v :: .int y :: .ref q :: st)))) : sv_Good p l e R s m args below meth c Q P D AC kd B0 κ0 mF mA Px nL S pc := by
  unfold sv_as at h
  split at h
  · rename_i K k md w1 hax
    split at h
    · rename_i T0 hT0
      generalize hTn : sv_Tn T0 = T at h
      split at h
      · rename_i w2 hty
        split at h
        · rename_i w20 hmay
          split at h
          case h_2 => simp at h
          rename_i ne w3 hga
          split at h
          · rename_i fl w4 hfl
            cases hq : (ok k.2.1 T && !k.2.2.2.2.2.2 && sv_tok T) with
            | false => rw [hq] at h; cases h
            | true =>
              rw [hq] at h
              simp only [cond_true, Option.some.injEq, Prod.mk.injEq] at h
              obtain ⟨rfl, -⟩ := h
              simp only [Bool.and_eq_true, Bool.not_eq_true'] at hq
              obtain ⟨⟨q1, q2⟩, q3⟩ := hq
              intro κ H locs ρ ls st hI hPx hS
              have hs := hS.2.2.1
              rw [hst] at hs
              obtain ⟨v1, vs1, rfl, p1, hs1⟩ := sv_StOk_cons hs
              obtain ⟨v2, vs2, rfl, p2, hs2⟩ := sv_StOk_cons hs1
              obtain ⟨v3, vs3, rfl, p3, hs3⟩ := sv_StOk_cons hs2
              obtain ⟨y, rfl, p4⟩ := sv_VOk1 p2
              obtain ⟨q, cell, g1, g2, g3, g4, g5, g6, g7, g8, g9⟩ := sv_ax_ok hI.1 hS hax p3.2.2 p4
              rcases sv_VOk3 p3 with ⟨rfl, p5⟩ | ⟨b, rfl, p5⟩
              · have e1 : (-1 : Int) = (q : Int) := g1
                omega
              · have e1 : (b : Int) = (q : Int) := g1
                have e2 : b = q := by omega
                subst e2
                have e3 : y.toNatClampNeg = y.toInt.toNat := rfl
                have e4 : ((y.toInt.toNat : Nat) : Int) = y.toInt := Int.toNat_of_nonneg g8
                have hj : sv_ev ρ i = some ((y.toNatClampNeg : Nat) : Int) := by rw [e3, e4]; exact p4
                have hlt : y.toNatClampNeg < cell.slots.size := by omega
                have hka : κ b ≠ 0 := by rw [g2]; exact g3
                have hKa : sv_nth kd (κ b) = some k := by rw [g2]; exact g4
                -- the type of what is stored
                have hcase : (Nat.beq md 0 = true ∧ sv_FtOk κ H.size T v1) ∨ (Nat.beq md 0 = false ∧ byt = true ∧ k.2.1 = 1 ∧ T.1 = 1 ∧ T.2.1 ≤ -128 ∧ 127 ≤ T.2.2.1) := by
                  cases hm : Nat.beq md 0 with
                  | true =>
                    rw [hm] at hty
                    exact Or.inl ⟨rfl, sv_ty_ok hS hty p1⟩
                  | false =>
                    rw [hm] at hty
                    simp only [cond_false] at hty
                    cases hb : (Nat.beq md 1 && Nat.beq t 1 && byt && Nat.beq k.2.1 1 && Nat.beq T.1 1 && sv_le T.2.1 (-128) && sv_le 127 T.2.2.1) with
                    | false => rw [hb] at hty; cases hty
                    | true =>
                      simp only [Bool.and_eq_true, sv_le_iff] at hb
                      obtain ⟨⟨⟨⟨⟨-, b2⟩, b3⟩, b4⟩, b5⟩, b6⟩ := hb
                      exact Or.inr ⟨rfl, b2, Nat.eq_of_beq_eq_true b3, Nat.eq_of_beq_eq_true b4, b5, b6⟩
                obtain ⟨u, u1, u2, u3⟩ := hr κ H locs (H.size - s.heap.size) (sv_slots H - sv_slots s.heap) ls vs3 b y cell v1 k T hI.1 p1.1 q1 q3 (by
                  rcases hcase with ⟨-, h1⟩ | ⟨-, h1, h2, -⟩
                  · exact Or.inl h1
                  · exact Or.inr ⟨h1, h2⟩) g6 g7.1 g7.2.1 (sv_ix g8 g9)
                have hft : sv_FtOk κ H.size T u := by
                  rcases hcase with ⟨-, h1⟩ | ⟨-, h1, h2, h3, h4, h5⟩
                  · rw [u1 h1]; exact h1
                  · obtain ⟨f1, f2, f3⟩ := u2 h1 h2
                    exact ⟨f1.trans h3.symm, fun _ => ⟨by omega, by omega⟩, fun z => by rw [h3] at z; cases z⟩
                refine u3 fun H' n1 n2 n3 => ?_
                have hH : sv_St H H' b y.toNatClampNeg cell u := ⟨g6, hlt, n1, n2, n3⟩
                have hga' : sv_Ga D κ H b y.toNatClampNeg u := by
                  rcases hcase with ⟨h0, h1⟩ | ⟨h0, -⟩
                  · rw [u1 h1]
                    refine sv_ga_ok hiv.2 hI.1 hS hga hj g2 (fun _ => p1.2.2) (fun _ z => ?_)
                    obtain ⟨-, ⟨ka, a1, a2, Ta, a3, a4⟩, -⟩ := sv_Gk_ok hiv.2
                    rw [z, a1] at g4
                    cases g4
                    rw [a3] at hT0
                    cases hT0
                    have e5 : T = (T0.1, T0.2.1, T0.2.2.1, T0.2.2.2.1, false) := by
                      rw [← hTn]
                      unfold sv_Tn
                      rw [a4]
                      rfl
                    have h2 := h1.2.2 (by rw [e5]; exact a4)
                    rw [e5] at h2
                    rcases h2 with ⟨-, h3⟩ | ⟨b', h3, -⟩
                    · cases h3
                    · exact ⟨b', h3⟩
                  · exact sv_ga_ok hiv.2 hI.1 hS hga hj g2 (fun z => by rw [z] at h0; cases h0) (fun z => by rw [z] at h0; cases h0)
                have hT' := sv_TI_ast hiv hI.1 hka hKa g5 hT0 (sv_Tn_ok (by rw [hTn]; exact hft)) hH hga'
                have hfr : ∀ (q' : Nat) (c : Cell), H[q']? = some c → ∃ c', H'[q']? = some c' ∧ sv_FrC D kd [] [K] (κ q') c c' := fun q' c hc => by
                  have := sv_St_frA (D := D) hKa g5 hka hH hc
                  rw [g2] at this
                  exact this
                have hB : B0 ≤ b := by
                  by_cases hb0 : b < B0
                  · rcases (hI.1.2.1 b k hb0 hka hKa).2 with h1 | h1
                    · rw [q2] at h1; cases h1
                    · have := h1 cell g6
                      omega
                  · omega
                have hmay' := sv_may_ok hS hmay p5 (h00 ρ hPx)
                have hI' := sv_Inv_st hI hT' hH hka hB hfr (by
                  rcases hmay' with h1 | h1
                  · exact Or.inl ⟨fun x hx => (by cases hx), fun x hx => (by rw [List.mem_singleton] at hx; rw [hx]; exact h1)⟩
                  · exact Or.inr h1)
                have hfs := sv_kps_ok (rw := []) (g := false) hP hfr (sv_St_mv hH κ) (fun _ => ⟨hH.2.2.2.1, sv_St_slots hH⟩) hS.2.2.2
                have hel := sv_els_ok (fun m' w0 l0 w0' h0 => by
                  rcases hcase with ⟨e0, e1⟩ | ⟨e0, -⟩
                  · simp only [e0, cond_true] at h0
                    have hH' : sv_St H H' b y.toNatClampNeg cell v1 := by rw [← u1 e1]; exact hH
                    exact hsl S K t a i x m' w0 w0' l0 h0 κ H H' ρ nL ls _ b y.toNatClampNeg cell v1 hI.1 hS p5 hj p1 g2 g3 hH'
                  · simp only [e0, cond_false] at h0
                    cases h0) hS p5 hj hH hfl
                have hz1 : H'.size = H.size := hH.2.2.2.1
                have hz2 : sv_slots H' = sv_slots H := sv_St_slots hH
                have := hk _ List.mem_cons_self κ H' _ ρ ls vs3 hI' hPx ⟨hS.1, hS.2.1, hs3, fun f' hf' => ?_⟩
                · rw [hz1, hz2] at this
                  exact this
                · have hrest : ∀ f' ∈ fl ++ sv_kps sup [] [K] [] false S.2.2.2, sv_FOk P D kd κ H' ρ f' := fun f' hf' => by
                    rcases List.mem_append.mp hf' with h1 | h1
                    · exact hel f' h1
                    · exact hfs f' h1
                  rcases hcase with ⟨h0, h1⟩ | ⟨h0, -⟩
                  · simp only [h0, cond_true] at hf'
                    rcases List.mem_cons.mp hf' with rfl | hf'
                    · refine ⟨[_, _, _], sv_evs_cons.mpr ⟨_, _, p5, sv_evs_cons.mpr ⟨_, _, hj, sv_evs_cons.mpr ⟨_, _, p1.2.2, rfl, rfl⟩, rfl⟩, rfl⟩, g3, ⟨k, g4, g5⟩, fun q' j' hq' hj' => ?_⟩
                      have e1 : b = q' := by omega
                      have e2 : y.toNatClampNeg = j' := by omega
                      subst e1
                      subst e2
                      refine ⟨g2, _, n1, fun _ => ⟨v1, ?_, p1.1, rfl⟩⟩
                      rw [sv_setSlot_get _ _ _ _ hlt, if_pos rfl, u1 h1]
                    · exact hrest f' hf'
                  · simp only [h0, cond_false] at hf'
                    exact hrest f' hf'
          · simp at h
        · simp at h
      · simp at h
    · simp at h
  · simp at h
theorem sv_Ws_ok {sl : SvS → Nat → Nat → SvL → SvL → SvL → Nat → List Nat → Option (List SvF × List Nat)} (hsl : sv_Sl P D AC kd B0 sl) (hP : sv_PF P sup D kd) (hiv : sv_ivs kd) (h00 : ∀ ρ, Px ρ → sv_nth ρ 0 = some (s.heap.size : Int)) (hx : p.tables.exec = Jvm.exec) (hb : c.code = cc) {cn : Nat → String} (hA : ∀ x, ArrOfT s (AC x) (sv_ety cn x)) (hRA : ∀ x, va_RA s (AC x) (sv_ety cn x)) {ecl : List (Nat × Nat)} (hE : ∀ ci j, (ci, j) ∈ ecl → ClassAt s (cn j) (D.1 ci)) {i : Instr} (hd : decode cc pc = .ok (i, n)) (h : sv_Ws sl sup mA ecl kd S pc i n w = some (r, w')) (hk : ∀ q ∈ r, sv_Good p l e R s m args below meth c Q P D AC kd B0 κ0 mF mA Px nL q.1 q.2) : sv_Good p l e R s m args below meth c Q P D AC kd B0 κ0 mF mA Px nL S pc := by
  unfold sv_Ws at h
  cases hn : Nat.beq n 1 with
  | false => rw [hn] at h; cases h
  | true =>
  rw [hn] at h
  simp only [cond_true] at h
  have hn := Nat.eq_of_beq_eq_true hn
  subst hn
  split at h
  · split at h
    · rename_i x i0 a rest hst
      refine sv_as_ok hsl hP hiv h00 hst h hk (fun κ H locs cells slots ls st q y cell v k T hTI hv hok htk hft g1 g2 g3 g4 => ?_)
      obtain ⟨x0, rfl, -⟩ := sv_val1 hv
      have e2 : k.2.1 = 0 := Nat.eq_of_beq_eq_true hok
      rw [e2] at g2
      exact ⟨.int x0, fun _ => rfl, fun z => (by cases z), fun kk => W.iast hx hb g1 (sv_arr (hA 0) g2 g3) (by rw [g3]; exact fun z => by cases z) g4 rfl rfl hd kk⟩
    · simp at h
  · split at h
    · rename_i x i0 a rest hst
      refine sv_as_ok hsl hP hiv h00 hst h hk (fun κ H locs cells slots ls st q y cell v k T hTI hv hok htk hft g1 g2 g3 g4 => ?_)
      obtain ⟨x0, rfl, -⟩ := sv_val1 hv
      unfold sv_okB at hok
      cases h1 : Nat.beq k.2.1 1 with
      | true =>
        rw [h1] at hok
        have e2 : k.2.1 = 1 := Nat.eq_of_beq_eq_true h1
        rw [e2] at g2
        simp only [cond_true, sv_bb, Bool.and_eq_true, sv_le_iff] at hok
        have b1 := Int8.le_toInt x0.toInt8
        have b2 := Int8.toInt_lt x0.toInt8
        have b3 : narrow .byte (.int x0) = .int x0.toInt8.toInt32 := rfl
        refine ⟨.int x0.toInt8.toInt32, fun hf => ?_, fun _ _ => ⟨rfl, by show -128 ≤ x0.toInt8.toInt32.toInt; rw [Int8.toInt_toInt32]; omega, by show x0.toInt8.toInt32.toInt ≤ 127; rw [Int8.toInt_toInt32]; omega⟩, fun kk => W.bast hx hb g1 (sv_arr (hA 1) g2 g3) (by rw [g3]; exact fun z => by cases z) g4 rfl rfl hd kk⟩
        have hf2 : T.2.1 ≤ x0.toInt ∧ x0.toInt ≤ T.2.2.1 := hf.2.1 (by rw [← hf.1]; exact (by decide : (1 : Nat) ≠ 3))
        congr 1
        rw [← Int32.toInt_inj, Int8.toInt_toInt32, Int32.toInt_toInt8]
        exact Int.bmod_eq_of_le_mul_two (by omega) (by omega)
      | false =>
        rw [h1] at hok
        simp only [cond_false, sv_b01, Bool.and_eq_true, sv_le_iff] at hok
        have e2 : k.2.1 = 2 := Nat.eq_of_beq_eq_true hok.1
        rw [e2] at g2
        rcases hft with hft | ⟨-, hft⟩
        · have hf2 : T.2.1 ≤ x0.toInt ∧ x0.toInt ≤ T.2.2.1 := hft.2.1 (by rw [← hft.1]; exact (by decide : (1 : Nat) ≠ 3))
          have hb3 : narrow .boolean (.int x0) = .int x0 := by
            have h01 : x0.toInt = 0 ∨ x0.toInt = 1 := by omega
            rcases h01 with h01 | h01
            · have : x0 = 0 := by rw [← Int32.toInt_inj, h01]; rfl
              subst this
              rfl
            · have : x0 = 1 := by rw [← Int32.toInt_inj, h01]; rfl
              subst this
              rfl
          exact ⟨.int x0, fun _ => rfl, fun _ z => (by rw [e2] at z; cases z), fun kk => W.zast hx hb g1 (sv_arr (hA 2) g2 g3) (by rw [g3]; exact fun z => by cases z) g4 rfl rfl hd (by rw [hb3]; exact kk)⟩
        · rw [e2] at hft
          cases hft
    · simp at h
  · split at h
    · rename_i x i0 a rest hst
      refine sv_as_ok hsl hP hiv h00 hst h hk (fun κ H locs cells slots ls st q y cell v k T hTI hv hok htk hft g1 g2 g3 g4 => ?_)
      obtain ⟨x0, rfl, -⟩ := sv_val2 hv
      have e2 : k.2.1 = 3 := Nat.eq_of_beq_eq_true hok
      rw [e2] at g2
      exact ⟨.long x0, fun _ => rfl, fun z => (by cases z), fun kk => W.last hx hb g1 (sv_arr (hA 3) g2 g3) (by rw [g3]; exact fun z => by cases z) g4 rfl rfl hd kk⟩
    · simp at h
  · split at h
    · rename_i x i0 a rest hst
      refine sv_as_ok hsl hP hiv h00 hst h hk (fun κ H locs cells slots ls st q y cell v k T hTI hv hok htk hft g1 g2 g3 g4 => ?_)
      simp only [sv_okA, Bool.and_eq_true, Bool.not_eq_true'] at hok
      obtain ⟨⟨o1, o2⟩, o3⟩ := hok
      have o1 := Nat.eq_of_beq_eq_true o1
      split at o3
      · rename_i k2 hk2
        rw [Bool.and_eq_true] at o3
        obtain ⟨o3, o4⟩ := o3
        have o3 := Nat.eq_of_beq_eq_true o3
        split at o4
        · rename_i j hj
          have o4 := Nat.eq_of_beq_eq_true o4
          have hcl := hE _ _ (sv_lk_ok hj)
          rcases hft with hft | ⟨z, -⟩
          · rcases hft.2.2 o1 with ⟨-, z⟩ | ⟨b, rfl, b1, b2⟩
            · rw [o2] at z; cases z
            · rw [← o4] at g2
              have hra := hRA (j + 5)
              obtain ⟨kA, comp, r1, r2, r3, r4⟩ := hra
              have hcomp : comp = D.1 k2.2.1 := Option.some.inj (r3.symm.trans hcl.1)
              subst hcomp
              obtain ⟨kC, hkC, hkind⟩ := hcl.2
              by_cases hb0 : κ b = 0
              · rw [hb0] at b2
                exact absurd b2.symm ((sv_tok_ok htk).2 o1)
              · obtain ⟨k3, cv, c1, c2, c3⟩ := hTI.1 b hb0
                rw [b2, hk2] at c1
                cases c1
                rcases c3 with ⟨-, c4, c5, -⟩ | ⟨c4, -⟩
                · refine ⟨.ref b, fun _ => rfl, fun z => (by cases z), fun kk => W.aast hx hb g1 (by rw [g3]; exact fun q z => by cases z) (by rw [g3]; exact fun z => by cases z) (k := kA) (comp := D.1 k2.2.1) (t := .object (cn j)) (kcomp := kC) (kv := kC) ?_ r2 rfl hkC ⟨fun z => g4 (Or.inl z), Nat.lt_of_not_le fun z => g4 (Or.inr z)⟩ c2 (by rw [c5]; exact fun q z => by cases z) (by rw [c4]; exact hkC) (by rw [c4]; exact va_assign hcl) rfl rfl hd kk⟩
                  rw [g2]; exact r1
                · rw [o3] at c4; cases c4
          · cases z
        · cases o4
      · cases o3
    · simp at h
  · split at h
    · rename_i x i0 a rest hst
      refine sv_as_ok hsl hP hiv h00 hst h hk (fun κ H locs cells slots ls st q y cell v k T hTI hv hok htk hft g1 g2 g3 g4 => ?_)
      obtain ⟨x0, rfl, -⟩ := sv_val1 hv
      unfold sv_okC at hok
      simp only [Bool.and_eq_true, sv_le_iff] at hok
      obtain ⟨⟨⟨o1, o2⟩, o3⟩, o4⟩ := hok
      have e2 : k.2.1 = 4 := Nat.eq_of_beq_eq_true o1
      have o2 := Nat.eq_of_beq_eq_true o2
      rw [e2] at g2
      rcases hft with hft | ⟨z, -⟩
      · have hf2 : T.2.1 ≤ x0.toInt ∧ x0.toInt ≤ T.2.2.1 := hft.2.1 (by rw [o2]; decide)
        have hx0 : ¬ x0 < 0 := fun z => by
          rw [Int32.lt_iff_toInt_lt, sv_i0] at z
          omega
        obtain ⟨j, hj, rfl⟩ := nI_of hx0
        rw [nI_toInt hj] at hf2
        have hj2 : j < 128 := by omega
        have hb3 : narrow .char (.int (nI j)) = .int (nI j) := (show ∀ n, n < 128 → narrow .char (.int (nI n)) = .int (nI n) by decide +kernel) j hj2
        exact ⟨.int (nI j), fun _ => rfl, fun z => (by cases z), fun kk => W.cast hx hb g1 (sv_arr (hA 4) g2 g3) (by rw [g3]; exact fun z => by cases z) g4 rfl rfl hd (by rw [hb3]; exact kk)⟩
      · cases z
    · simp at h
  · simp at h
end SVM
