-- ===== new cells =====
def sv_dv : Nat → Value
  | 0 => .int 0
  | 1 => .int 0
  | 2 => .long 0
  | _ => .null
def sv_d1 (b : Nat) (T : SvT) : Bool := match b with
  | 0 => Nat.beq T.1 1 && sv_le T.2.1 0 && sv_le 0 T.2.2.1
  | 1 => Nat.beq T.1 1 && sv_le T.2.1 0 && sv_le 0 T.2.2.1
  | 2 => Nat.beq T.1 2 && sv_le T.2.1 0 && sv_le 0 T.2.2.1
  | _ => Nat.beq T.1 3 && T.2.2.2.2
def sv_dok : List Nat → List SvT → Bool
  | [], [] => true
  | b :: bs, T :: Ts => sv_d1 b T && sv_dok bs Ts
  | _, _ => false
def sv_f7 (fs : List SvF) (j : Nat) : Option SvL := match sv_nth fs j with
  | some (7, _, [h]) => some h
  | _ => none
def sv_f8 (fs : List SvF) (j : Nat) : Option SvL := match sv_nth fs j with
  | some (8, _, [h]) => some h
  | _ => none
def sv_isnil {α : Type} : List α → Bool
  | [] => true
  | _ => false
/-- two certificates of room: cells and slots -/
def sv_rm (mc ms : Nat) (S : SvS) (h sl : SvL) (N : SvL) (w : List Nat) : Option (List Nat) := match sv_rcert w with
  | some (c1, w1) => match sv_rcert w1 with
    | some (c2, w2) => bif sv_prove S.1 S.2.2.2 c1 (sv_addc (sv_sub (sv_v 0) h) (Int.sub (Int.ofNat mc) 1)) && sv_prove S.1 S.2.2.2 c2 (sv_addc (sv_sub (sv_sub (sv_v 1) sl) N) (Int.ofNat ms)) then some w2 else none
    | none => none
  | none => none
def sv_newo (sup : Nat → List Nat × List Nat) (mc ms : Nat) (lkN : List (Nat × Nat × Nat × List Nat)) (kd : List SvK) (S : SvS) (idx pc : Nat) (w : List Nat) : Option (List (SvS × Nat) × List Nat) := match sv_lk lkN idx, w with
  | some (ci, n, fbs), K :: j7 :: j8 :: w1 => match sv_nth kd K with
    | some k => match sv_f7 S.2.2.2 j7 with
      | some h => match sv_f8 S.2.2.2 j8 with
        | some sl => match sv_rm mc ms S h sl (sv_k (Int.ofNat n)) w1 with
          | some w2 => bif !(Nat.beq K 0) && !(Nat.beq K g_tree) && Nat.beq k.1 0 && Nat.beq k.2.1 ci && sv_isnil k.2.2.2.1 && sv_dok fbs k.2.2.1 then
              some ([((S.1, S.2.1, (3, h) :: S.2.2.1, (1, [K], [h]) :: (7, [], [sv_addc h 1]) :: (8, [], [sv_add sl (sv_k (Int.ofNat n))]) :: sv_kps sup [] [] [] true S.2.2.2), pc + 3)], w2) else none
          | none => none
        | none => none
      | none => none
    | none => none
  | _, _ => none
/-- a new array: 4 certificates: not below the least length, not above the most, room -/
def sv_newb (sup : Nat → List Nat × List Nat) (mc ms : Nat) (kd : List SvK) (S : SvS) (rest : List SvA) (x : SvL) (ec b : Nat) (len pc : Nat) (w : List Nat) : Option (List (SvS × Nat) × List Nat) := match w with
  | K :: j7 :: j8 :: w1 => match sv_nth kd K with
    | some k => match sv_f7 S.2.2.2 j7 with
      | some h => match sv_f8 S.2.2.2 j8 with
        | some sl => match sv_two S.1 S.2.2.2 x (Int.ofNat k.2.2.2.2.1) (Int.ofNat k.2.2.2.2.2.1) w1 with
          | some w2 => match sv_rm mc ms S h sl x w2 with
            | some w3 => match sv_nth k.2.2.1 0 with
              | some T => bif !(Nat.beq K 0) && Nat.beq k.1 1 && Nat.beq k.2.1 ec && sv_d1 b T && Nat.ble k.2.2.2.2.2.1 67108864 then
                  some ([((S.1, S.2.1, (3, h) :: rest, (1, [K], [h]) :: (2, [], [h, x]) :: (7, [], [sv_addc h 1]) :: (8, [], [sv_add sl x]) :: sv_kps sup [] [] [] true S.2.2.2), pc + len)], w3) else none
              | none => none
            | none => none
          | none => none
        | none => none
      | none => none
    | none => none
  | _ => none
def sv_atc : ArrayType → Nat
  | .int => 0
  | .byte => 1
  | .boolean => 2
  | .long => 3
  | .char => 4
  | _ => 99
def sv_N (sup : Nat → List Nat × List Nat) (mc ms : Nat) (lkN : List (Nat × Nat × Nat × List Nat)) (lkA : List (Nat × Nat)) (kd : List SvK) (S : SvS) (pc : Nat) (i : Instr) (n : Nat) (w : List Nat) : Option (List (SvS × Nat) × List Nat) := match i with
  | .new idx => bif Nat.beq n 3 then sv_newo sup mc ms lkN kd S idx pc w else none
  | .newarray at0 => (match S.2.2.1 with | (1, x) :: r => (bif Nat.beq n 2 && Nat.ble (sv_atc at0) 4 then sv_newb sup mc ms kd S r x (sv_atc at0) (bif Nat.beq (sv_atc at0) 3 then 2 else 0) 2 pc w else none) | _ => none)
  | .anewarray idx => (match S.2.2.1 with | (1, x) :: r => (match sv_lk lkA idx with | some j => (bif Nat.beq n 3 then sv_newb sup mc ms kd S r x (j + 5) 3 3 pc w else none) | none => none) | _ => none)
  | _ => none
def sv_LkN (s : State) (m : MethodId) (args : Array Value) (D : va_G) (idx ci n : Nat) (fbs : List Nat) : Prop :=
  ∃ (own C : String), s.vm.findClass own = some m.cls ∧ (Cond.classLink own idx C).before args s = true ∧ (Cond.instantiable C n).before args s = true ∧ (Cond.initialized C).before args s = true ∧ s.vm.findClass C = some (D.1 ci) ∧
    ∀ kC : Class, s.vm.classes[D.1 ci]? = some kC → (blank (D.1 ci) kC).slots.size = n ∧ ∀ f b, sv_nth fbs f = some b → (blank (D.1 ci) kC).slots[D.2 ci f]? = some (sv_dv b)
def sv_LkA (s : State) (m : MethodId) (args : Array Value) (cn : Nat → String) (idx j : Nat) : Prop :=
  ∃ own : String, s.vm.findClass own = some m.cls ∧ (Cond.classLink own idx (cn j)).before args s = true ∧ (Cond.arrayOver (.object (cn j))).before args s = true
theorem sv_d1_ok {b : Nat} {T : SvT} (h : sv_d1 b T = true) (κ : Nat → Nat) (z : Nat) : sv_FtOk κ z T (sv_dv b) := by
  unfold sv_d1 at h
  have i0 : sv_enc (.int 0) = 0 := by decide
  have l0 : sv_enc (.long 0) = 0 := by decide
  split at h
  · simp only [Bool.and_eq_true, sv_le_iff] at h
    have e := Nat.eq_of_beq_eq_true h.1.1
    exact ⟨e.symm, fun _ => ⟨by show T.2.1 ≤ sv_enc (.int 0); rw [i0]; exact h.1.2, by show sv_enc (.int 0) ≤ _; rw [i0]; exact h.2⟩, fun q => by rw [e] at q; cases q⟩
  · simp only [Bool.and_eq_true, sv_le_iff] at h
    have e := Nat.eq_of_beq_eq_true h.1.1
    exact ⟨e.symm, fun _ => ⟨by show T.2.1 ≤ sv_enc (.int 0); rw [i0]; exact h.1.2, by show sv_enc (.int 0) ≤ _; rw [i0]; exact h.2⟩, fun q => by rw [e] at q; cases q⟩
  · simp only [Bool.and_eq_true, sv_le_iff] at h
    have e := Nat.eq_of_beq_eq_true h.1.1
    exact ⟨e.symm, fun _ => ⟨by show T.2.1 ≤ sv_enc (.long 0); rw [l0]; exact h.1.2, by show sv_enc (.long 0) ≤ _; rw [l0]; exact h.2⟩, fun q => by rw [e] at q; cases q⟩
  · rename_i b' hb0 hb1 hb2
    rw [Bool.and_eq_true] at h
    have e := Nat.eq_of_beq_eq_true h.1
    have hn : sv_dv b = .null := by
      match b, hb0, hb1, hb2 with
      | 0, h0, _, _ => exact absurd rfl h0
      | 1, _, h1, _ => exact absurd rfl h1
      | 2, _, _, h2 => exact absurd rfl h2
      | b + 3, _, _, _ => rfl
    rw [hn]
    exact ⟨e.symm, fun q => absurd e q, fun _ => Or.inl ⟨rfl, h.2⟩⟩
theorem sv_dok_ok : ∀ {bs : List Nat} {Ts : List SvT}, sv_dok bs Ts = true → ∀ f T, sv_nth Ts f = some T → ∃ b, sv_nth bs f = some b ∧ sv_d1 b T = true
  | [], [], _, f, T, h => by simp [sv_nth] at h
  | [], _ :: _, h, _, _, _ => by simp [sv_dok] at h
  | _ :: _, [], h, _, _, _ => by simp [sv_dok] at h
  | b :: bs, T0 :: Ts, h, f, T, hT => by
    simp only [sv_dok, Bool.and_eq_true] at h
    cases f with
    | zero =>
      simp only [sv_nth, Option.some.injEq] at hT
      subst hT
      exact ⟨b, rfl, h.1⟩
    | succ f =>
      simp only [sv_nth] at hT
      exact sv_dok_ok h.2 f T hT
section SVN
variable {p : Program} {l : Launch} {e : Env} {R : Room} {s : State} {m : MethodId} {args : Array Value} {below : List Frame} {meth : Method} {c : Code} {Q : State → Prop}
variable {P : Nat → List Nat → List Int → (Nat → Nat) → Heap → Prop} {D : va_G} {AC : Nat → ClassId} {kd : List SvK} {B0 : Nat} {κ0 : Nat → Nat} {mF mA : List Nat} {Px : List Int → Prop} {nL : Nat} {cc : ByteArray} {pc n : Nat} {w w' : List Nat} {S : SvS} {r : List (SvS × Nat)} {sup : Nat → List Nat × List Nat} {mc ms : Nat}
theorem sv_Inv_nw (hiv : sv_ivs kd) {κ : Nat → Nat} {H H' : Heap} {locs : List Loc} {cell : Cell} {K : Nat} {k : SvK} (hI : sv_Inv s D AC kd B0 κ0 mF mA κ H locs) (h : sv_Nw H H' cell) (hK : sv_nth kd K = some k) (hc : sv_ClOk D AC (sv_up κ H.size K) H' k cell) (hgn : sv_Gn K cell) : sv_Inv s D AC kd B0 κ0 mF mA (sv_up κ H.size K) H' locs := by
  obtain ⟨h1, h2, h3, h4, h5, h6⟩ := hI
  refine ⟨sv_TI_nw hiv h1 h hK hc hgn, fun q hq => ?_, sv_Fr_tr h3 (fun q c hq hc => ⟨c, by rw [h.2.2 q (by omega)]; exact hc, sv_FrC_rf⟩), h4, by rw [h.2.1]; omega, by rw [sv_Nw_slots h]; omega⟩
  rw [show sv_up κ H.size K q = κ q from if_neg (by omega)]
  exact h2 q hq
theorem sv_f7_ok {κ : Nat → Nat} {H : Heap} {ρ : List Int} {ls : Array Slot} {st : List Value} (hS : sv_Sat P D kd κ H ρ nL ls st S) {j : Nat} {h : SvL} (hh : sv_f7 S.2.2.2 j = some h) : sv_ev ρ h = some (H.size : Int) := by
  unfold sv_f7 at hh
  split at hh
  · rename_i b h' hn
    simp only [Option.some.injEq] at hh
    subst hh
    obtain ⟨vs, f1, f2⟩ := hS.2.2.2 _ (List.mem_of_getElem? (by rw [← sv_nth_eq]; exact hn))
    obtain ⟨y1, z1, f3, f4, rfl⟩ := sv_evs_cons.mp f1
    simp only [sv_evs, Option.some.injEq] at f4
    subst f4
    have f2 : (H.size : Int) = y1 := f2
    rw [f2]; exact f3
  · simp at hh
theorem sv_f8_ok {κ : Nat → Nat} {H : Heap} {ρ : List Int} {ls : Array Slot} {st : List Value} (hS : sv_Sat P D kd κ H ρ nL ls st S) {j : Nat} {h : SvL} (hh : sv_f8 S.2.2.2 j = some h) : sv_ev ρ h = some (sv_slots H : Int) := by
  unfold sv_f8 at hh
  split at hh
  · rename_i b h' hn
    simp only [Option.some.injEq] at hh
    subst hh
    obtain ⟨vs, f1, f2⟩ := hS.2.2.2 _ (List.mem_of_getElem? (by rw [← sv_nth_eq]; exact hn))
    obtain ⟨y1, z1, f3, f4, rfl⟩ := sv_evs_cons.mp f1
    simp only [sv_evs, Option.some.injEq] at f4
    subst f4
    have f2 : (sv_slots H : Int) = y1 := f2
    rw [f2]; exact f3
  · simp at hh
theorem sv_rm_ok {κ : Nat → Nat} {H : Heap} {ρ : List Int} {ls : Array Slot} {st : List Value} (hS : sv_Sat P D kd κ H ρ nL ls st S) {h sl N : SvL} {x h0 s0 : Int} {z zs : Int} (hh : sv_rm mc ms S h sl N w = some w') (e1 : sv_ev ρ h = some z) (e2 : sv_ev ρ sl = some zs) (e3 : sv_ev ρ N = some x) (e4 : sv_nth ρ 0 = some h0) (e5 : sv_nth ρ 1 = some s0) : z + 1 - h0 ≤ (mc : Int) ∧ zs + x - s0 ≤ (ms : Int) := by
  unfold sv_rm at hh
  split at hh
  · rename_i c1 w1 h1
    split at hh
    · rename_i c2 w2 h2
      cases hq : (sv_prove S.1 S.2.2.2 c1 (sv_addc (sv_sub (sv_v 0) h) (Int.sub (Int.ofNat mc) 1)) && sv_prove S.1 S.2.2.2 c2 (sv_addc (sv_sub (sv_sub (sv_v 1) sl) N) (Int.ofNat ms))) with
      | false => rw [hq] at hh; cases hh
      | true =>
        rw [Bool.and_eq_true] at hq
        have g1 := sv_prove_ok hS.1 hS.2.2.2 (sv_ev_addc (sv_ev_sub (sv_ev_v e4) e1)) hq.1
        have g2 := sv_prove_ok hS.1 hS.2.2.2 (sv_ev_addc (sv_ev_sub (sv_ev_sub (sv_ev_v e5) e2) e3)) hq.2
        have g1 : 0 ≤ h0 - z + ((mc : Int) - 1) := g1
        have g2 : 0 ≤ s0 - zs - x + (ms : Int) := g2
        omega
    · simp at hh
  · simp at hh
theorem sv_newo_ok (hP : sv_PF P sup D kd) (hiv : sv_ivs kd) (hP01 : ∀ ρ, Px ρ → sv_nth ρ 0 = some (s.heap.size : Int) ∧ sv_nth ρ 1 = some (sv_slots s.heap : Int)) (hmc : mc ≤ R.cells) (hms : ms ≤ R.slots) (hx : p.tables.exec = Jvm.exec) (hb : c.code = cc) {lkN : List (Nat × Nat × Nat × List Nat)} (hLN : ∀ idx ci n fbs, (idx, (ci, n, fbs)) ∈ lkN → sv_LkN s m args D idx ci n fbs) {idx : Nat} (hd : decode cc pc = .ok (.new idx, 3)) (h : sv_newo sup mc ms lkN kd S idx pc w = some (r, w')) (hk : ∀ q ∈ r, sv_Good p l e R s m args below meth c Q P D AC kd B0 κ0 mF mA Px nL q.1 q.2) : sv_Good p l e R s m args below meth c Q P D AC kd B0 κ0 mF mA Px nL S pc := by
  unfold sv_newo at h
  split at h
  · rename_i ci n fbs K j7 j8 w1 hlk
    obtain ⟨own, C, l1, l2, l3, l4, l5, l6⟩ := hLN _ _ _ _ (sv_lk_ok hlk)
    split at h
    · rename_i k hkd
      split at h
      · rename_i hh h7
        split at h
        · rename_i sl h8
          split at h
          · rename_i w2 hrm
            cases hq : (!(Nat.beq K 0) && !(Nat.beq K g_tree) && Nat.beq k.1 0 && Nat.beq k.2.1 ci && sv_isnil k.2.2.2.1 && sv_dok fbs k.2.2.1) with
            | false => rw [hq] at h; cases h
            | true =>
              rw [hq] at h
              simp only [cond_true, Option.some.injEq, Prod.mk.injEq] at h
              obtain ⟨rfl, -⟩ := h
              simp only [Bool.and_eq_true, Bool.not_eq_true'] at hq
              obtain ⟨⟨⟨⟨⟨q1, q6⟩, q2⟩, q3⟩, q4⟩, q5⟩ := hq
              have hK0 : K ≠ 0 := fun z => by rw [z] at q1; cases q1
              have q2 := Nat.eq_of_beq_eq_true q2
              have q3 := Nat.eq_of_beq_eq_true q3
              have hgn : ∀ c0 : Cell, sv_Gn K c0 := fun c0 => by
                obtain ⟨-, -, ⟨kv, v1, v2, -⟩, -, kf, f1, f2⟩ := sv_Gk_ok hiv.2
                refine ⟨(fun z => by rw [z, Nat.beq_refl] at q6; cases q6), fun z => ?_, fun z => ?_⟩
                · rw [z, v1] at hkd
                  cases hkd
                  rw [q2] at v2
                  cases v2
                · rw [z, f1] at hkd
                  cases hkd
                  rw [q2] at f2
                  cases f2
              intro κ H locs ρ ls st hI hPx hS
              have e7 := sv_f7_ok hS h7
              have e8 := sv_f8_ok hS h8
              obtain ⟨p0, p1⟩ := hP01 ρ hPx
              obtain ⟨r1, r2⟩ := sv_rm_ok hS hrm e7 e8 (sv_ev_k ρ (Int.ofNat n)) p0 p1
              have r2 : (sv_slots H : Int) + (n : Int) - (sv_slots s.heap : Int) ≤ (ms : Int) := r2
              have i5 := hI.2.2.2.2.1
              have i6 := hI.2.2.2.2.2
              refine W.newcK hx hb l1 l2 l3 l4 rfl hd (by omega) (by omega) l5 rfl fun H' kC hkC n1 n2 n3 => ?_
              obtain ⟨b1, b2⟩ := l6 kC hkC
              have hN : sv_Nw H H' (blank (D.1 ci) kC) := ⟨n1, n2, n3⟩
              have hcl : sv_ClOk D AC (sv_up κ H.size K) H' k (blank (D.1 ci) kC) := by
                refine Or.inl ⟨q2, by rw [q3]; rfl, rfl, fun f T hT => ?_, fun iv hi => ?_⟩
                · obtain ⟨b, hb1, hb2⟩ := sv_dok_ok q5 f T hT
                  exact ⟨sv_dv b, by rw [q3]; exact b2 f b hb1, sv_d1_ok hb2 _ _⟩
                · cases hnil : k.2.2.2.1 with
                  | nil => rw [hnil] at hi; cases hi
                  | cons a b => rw [hnil] at q4; cases q4
              have hI' := sv_Inv_nw hiv hI hN hkd hcl (hgn _)
              have hfs := sv_kps_ok (rw := []) (g := true) hP (sv_Nw_fr (mF := []) (mA := []) hN) (sv_Nw_mv hN κ K) (fun z => by cases z) hS.2.2.2
              have hsl := sv_Nw_slots hN
              rw [b1] at hsl
              have := hk _ List.mem_cons_self (sv_up κ H.size K) H' locs ρ ls (.ref H.size :: st) hI' hPx ⟨hS.1, hS.2.1, ⟨sv_mkV3 e7, hS.2.2.1⟩, fun f hf => ?_⟩
              · have t1 : H'.size - s.heap.size = H.size - s.heap.size + 1 := by omega
                have t2 : sv_slots H' - sv_slots s.heap = sv_slots H - sv_slots s.heap + n := by omega
                rw [t1, t2] at this
                exact this
              · rcases List.mem_cons.mp hf with rfl | hf
                · exact ⟨[_], sv_evs_cons.mpr ⟨_, _, e7, rfl, rfl⟩, hK0, Or.inr ⟨H.size, rfl, by omega, if_pos rfl⟩⟩
                · rcases List.mem_cons.mp hf with rfl | hf
                  · refine ⟨[_], sv_evs_cons.mpr ⟨_, _, sv_ev_addc e7, rfl, rfl⟩, ?_⟩
                    show (H'.size : Int) = (H.size : Int) + 1
                    omega
                  · rcases List.mem_cons.mp hf with rfl | hf
                    · refine ⟨[_], sv_evs_cons.mpr ⟨_, _, sv_ev_add e8 (sv_ev_k _ _), rfl, rfl⟩, ?_⟩
                      show (sv_slots H' : Int) = (sv_slots H : Int) + (n : Int)
                      omega
                    · exact hfs f hf
          · simp at h
        · simp at h
      · simp at h
    · simp at h
  · simp at h
theorem sv_newb_ok (hP : sv_PF P sup D kd) (hiv : sv_ivs kd) (hP01 : ∀ ρ, Px ρ → sv_nth ρ 0 = some (s.heap.size : Int) ∧ sv_nth ρ 1 = some (sv_slots s.heap : Int)) {rest : List SvA} {x : SvL} {ec b len : Nat} (hst : S.2.2.1 = (1, x) :: rest) (h : sv_newb sup mc ms kd S rest x ec b len pc w = some (r, w')) (hk : ∀ q ∈ r, sv_Good p l e R s m args below meth c Q P D AC kd B0 κ0 mF mA Px nL q.1 q.2)
    (hr : ∀ (H : Heap) (locs : List Loc) (cells slots : Nat) (ls : Array Slot) (st : List Value) (y : Int32) (N : Nat), ¬ y < 0 → y.toNatClampNeg = N → N ≤ 67108864 → cells + 1 ≤ mc → slots + N ≤ ms → (∀ (H' : Heap) (cell : Cell), H'[H.size]? = some cell → H'.size = H.size + 1 → (∀ q, q < H.size → H'[q]? = H[q]?) → cell.cls = AC ec → cell.vm = .none → cell.slots.size = N → (∀ (j : Nat) (v : Value), cell.slots[j]? = some v → v = sv_dv b) → W p l e R s m args below meth c H' locs (cells + 1) (slots + N) Q (F0 m (pc + len) ls (.ref H.size :: st))) → W p l e R s m args below meth c H locs cells slots Q (F0 m pc ls (.int y :: st))) : sv_Good p l e R s m args below meth c Q P D AC kd B0 κ0 mF mA Px nL S pc := by
  unfold sv_newb at h
  split at h
  · rename_i K j7 j8 w1
    split at h
    · rename_i k hkd
      split at h
      · rename_i hh h7
        split at h
        · rename_i sl h8
          split at h
          · rename_i w2 htwo
            split at h
            · rename_i w3 hrm
              split at h
              · rename_i T hT
                cases hq : (!(Nat.beq K 0) && Nat.beq k.1 1 && Nat.beq k.2.1 ec && sv_d1 b T && Nat.ble k.2.2.2.2.2.1 67108864) with
                | false => rw [hq] at h; cases h
                | true =>
                  rw [hq] at h
                  simp only [cond_true, Option.some.injEq, Prod.mk.injEq] at h
                  obtain ⟨rfl, -⟩ := h
                  simp only [Bool.and_eq_true, Bool.not_eq_true'] at hq
                  obtain ⟨⟨⟨⟨q1, q2⟩, q3⟩, q4⟩, q5⟩ := hq
                  have hK0 : K ≠ 0 := fun z => by rw [z] at q1; cases q1
                  have q2 := Nat.eq_of_beq_eq_true q2
                  have q3 := Nat.eq_of_beq_eq_true q3
                  have q5 := Nat.le_of_ble_eq_true q5
                  intro κ H locs ρ ls st hI hPx hS
                  have hs := hS.2.2.1
                  rw [hst] at hs
                  obtain ⟨v1, vs1, rfl, p2, hs1⟩ := sv_StOk_cons hs
                  obtain ⟨y, rfl, p3⟩ := sv_VOk1 p2
                  have e7 := sv_f7_ok hS h7
                  have e8 := sv_f8_ok hS h8
                  obtain ⟨p0, p1⟩ := hP01 ρ hPx
                  obtain ⟨r1, r2⟩ := sv_rm_ok hS hrm e7 e8 p3 p0 p1
                  obtain ⟨t1, t2⟩ := sv_two_ok hS.1 hS.2.2.2 p3 htwo
                  have t1 : ((k.2.2.2.2.1 : Nat) : Int) ≤ y.toInt := t1
                  have t2 : y.toInt ≤ ((k.2.2.2.2.2.1 : Nat) : Int) := t2
                  have i5 := hI.2.2.2.2.1
                  have i6 := hI.2.2.2.2.2
                  have hy0 : ¬ y < 0 := fun z => by
                    rw [Int32.lt_iff_toInt_lt, sv_i0] at z
                    omega
                  have hyN : ((y.toInt.toNat : Nat) : Int) = y.toInt := Int.toNat_of_nonneg (by omega)
                  refine hr H locs _ _ ls vs1 y y.toInt.toNat hy0 rfl (by omega) (by omega) (by omega) fun H' cell n1 n2 n3 n4 n5 n6 n7 => ?_
                  have hN : sv_Nw H H' cell := ⟨n1, n2, n3⟩
                  have hcl : sv_ClOk D AC (sv_up κ H.size K) H' k cell := by
                    refine Or.inr ⟨q2, by rw [q3]; exact n4, n5, by omega, by omega, fun T' hT' j v hv => ?_⟩
                    rw [hT] at hT'
                    cases hT'
                    rw [n7 j v hv]
                    exact sv_d1_ok q4 _ _
                  have hgn : sv_Gn K cell := by
                    obtain ⟨⟨kt, t1, t2, -⟩, -, ⟨kv, v1, v2, Tv, v3, v4, -⟩, -, kf, f1, f2⟩ := sv_Gk_ok hiv.2
                    refine ⟨fun z => ?_, fun z j0 b0 hj0 => ?_, fun z j0 n0 hj0 => ?_⟩
                    · rw [z, t1] at hkd
                      cases hkd
                      rw [q2] at t2
                      cases t2
                    · rw [z, v1] at hkd
                      cases hkd
                      rw [v3] at hT
                      cases hT
                      have h9 := n7 j0 _ hj0
                      unfold sv_dv at h9
                      split at h9 <;> cases h9
                    · have h9 := n7 j0 _ hj0
                      unfold sv_dv at h9
                      split at h9
                      · cases h9; rfl
                      · cases h9; rfl
                      · cases h9
                      · cases h9
                  have hI' := sv_Inv_nw hiv hI hN hkd hcl hgn
                  have hfs := sv_kps_ok (rw := []) (g := true) hP (sv_Nw_fr (mF := []) (mA := []) hN) (sv_Nw_mv hN κ K) (fun z => by cases z) hS.2.2.2
                  have hsl := sv_Nw_slots hN
                  rw [n6] at hsl
                  have := hk _ List.mem_cons_self (sv_up κ H.size K) H' locs ρ ls (.ref H.size :: vs1) hI' hPx ⟨hS.1, hS.2.1, ⟨sv_mkV3 e7, hs1⟩, fun f hf => ?_⟩
                  · have t1 : H'.size - s.heap.size = H.size - s.heap.size + 1 := by omega
                    have t2 : sv_slots H' - sv_slots s.heap = sv_slots H - sv_slots s.heap + y.toInt.toNat := by omega
                    rw [t1, t2] at this
                    exact this
                  · rcases List.mem_cons.mp hf with rfl | hf
                    · exact ⟨[_], sv_evs_cons.mpr ⟨_, _, e7, rfl, rfl⟩, hK0, Or.inr ⟨H.size, rfl, by omega, if_pos rfl⟩⟩
                    · rcases List.mem_cons.mp hf with rfl | hf
                      · refine ⟨[_, _], sv_evs_cons.mpr ⟨_, _, e7, sv_evs_cons.mpr ⟨_, _, p3, rfl, rfl⟩, rfl⟩, fun q hq => ?_⟩
                        have e1 : H.size = q := by omega
                        subst e1
                        exact ⟨cell, n1, by rw [n6]; exact hyN⟩
                      · rcases List.mem_cons.mp hf with rfl | hf
                        · refine ⟨[_], sv_evs_cons.mpr ⟨_, _, sv_ev_addc e7, rfl, rfl⟩, ?_⟩
                          show (H'.size : Int) = (H.size : Int) + 1
                          omega
                        · rcases List.mem_cons.mp hf with rfl | hf
                          · refine ⟨[_], sv_evs_cons.mpr ⟨_, _, sv_ev_add e8 p3, rfl, rfl⟩, ?_⟩
                            show (sv_slots H' : Int) = (sv_slots H : Int) + y.toInt
                            omega
                          · exact hfs f hf
              · simp at h
            · simp at h
          · simp at h
        · simp at h
      · simp at h
    · simp at h
  · simp at h
theorem sv_N_ok (hP : sv_PF P sup D kd) (hiv : sv_ivs kd) (hP01 : ∀ ρ, Px ρ → sv_nth ρ 0 = some (s.heap.size : Int) ∧ sv_nth ρ 1 = some (sv_slots s.heap : Int)) (hmc : mc ≤ R.cells) (hms : ms ≤ R.slots) (hx : p.tables.exec = Jvm.exec) (hb : c.code = cc) {cn : Nat → String} (hRA : ∀ x, va_RA s (AC x) (sv_ety cn x)) (hAC : ∀ at0, sv_atc at0 ≤ 4 → (Cond.arrayClass (newarray.typeOf at0)).before args s = true) {lkN : List (Nat × Nat × Nat × List Nat)} {lkA : List (Nat × Nat)} (hLN : ∀ idx ci n fbs, (idx, (ci, n, fbs)) ∈ lkN → sv_LkN s m args D idx ci n fbs) (hLA : ∀ idx j, (idx, j) ∈ lkA → sv_LkA s m args cn idx j) {i : Instr} (hd : decode cc pc = .ok (i, n)) (h : sv_N sup mc ms lkN lkA kd S pc i n w = some (r, w')) (hk : ∀ q ∈ r, sv_Good p l e R s m args below meth c Q P D AC kd B0 κ0 mF mA Px nL q.1 q.2) : sv_Good p l e R s m args below meth c Q P D AC kd B0 κ0 mF mA Px nL S pc := by
  unfold sv_N at h
  split at h
  · rename_i idx
    cases hq : Nat.beq n 3 with
    | false => rw [hq] at h; cases h
    | true =>
      rw [hq] at h
      have hn := Nat.eq_of_beq_eq_true hq
      subst hn
      exact sv_newo_ok hP hiv hP01 hmc hms hx hb hLN hd h hk
  · rename_i at0
    split at h
    · rename_i x rest hst
      cases hq : (Nat.beq n 2 && Nat.ble (sv_atc at0) 4) with
      | false => rw [hq] at h; cases h
      | true =>
        rw [hq] at h
        simp only [cond_true] at h
        rw [Bool.and_eq_true] at hq
        have hn := Nat.eq_of_beq_eq_true hq.1
        subst hn
        have hat := Nat.le_of_ble_eq_true hq.2
        refine sv_newb_ok hP hiv hP01 hst h hk fun H locs cells slots ls st y N h1 h2 h3 h4 h5 kk => ?_
        have hcb : componentBytes (newarray.typeOf at0) ≤ 8 := by cases at0 <;> decide
        have hmul : N * componentBytes (newarray.typeOf at0) ≤ 536870912 := Nat.le_trans (Nat.mul_le_mul h3 hcb) (by decide)
        refine va_newaK hx hb (hAC at0 hat) rfl hd rfl h1 h2 hmul (by omega) (by omega) rfl fun H' cA n1 n2 n3 n4 n5 => ?_
        refine kk H' _ n1 n2 n3 ?_ rfl ?_ (fun j v hv => ?_)
        · show cA = AC (sv_atc at0)
          have hra := hRA (sv_atc at0)
          cases at0 <;> first | exact Option.some.inj (n5.symm.trans hra) | exact absurd hat (by decide)
        · simp [arrV]
        · have hlt := (Array.getElem?_eq_some_iff.mp hv).1
          have hlt : j < N := by simpa [arrV] using hlt
          rw [arrV_read _ _ hlt] at hv
          cases hv
          cases at0 <;> first | rfl | exact absurd hat (by decide)
    · simp at h
  · rename_i idx
    split at h
    · rename_i x rest hst
      split at h
      · rename_i j hlk
        obtain ⟨own, l1, l2, l3⟩ := hLA _ _ (sv_lk_ok hlk)
        cases hq : Nat.beq n 3 with
        | false => rw [hq] at h; cases h
        | true =>
          rw [hq] at h
          simp only [cond_true] at h
          have hn := Nat.eq_of_beq_eq_true hq
          subst hn
          refine sv_newb_ok hP hiv hP01 hst h hk fun H locs cells slots ls st y N h1 h2 h3 h4 h5 kk => ?_
          subst h2
          refine W.anew hx hb l1 l2 l3 rfl hd rfl h1 (by omega) (by omega) (by omega) fun cA kA comp n1 n2 n3 n4 => ?_
          obtain ⟨kA2, comp2, r1, r2, r3, r4⟩ := hRA (j + 5)
          refine kk _ _ (by rw [Array.getElem?_push, if_pos rfl]) (by simp) (fun q hq => by rw [Array.getElem?_push, if_neg (Nat.ne_of_lt hq)]) (Option.some.inj (n1.symm.trans r4)) rfl (by simp) (fun j' v hv => ?_)
          have hlt := (Array.getElem?_eq_some_iff.mp hv).1
          rw [Array.getElem?_eq_getElem hlt] at hv
          simp at hv
          exact hv.symm
      · simp at h
    · simp at h
  · simp at h
end SVN
