-- ===== assumptions, branches =====
def sv_upl : Nat → Int → List SvB → List SvB
  | _, _, [] => []
  | 0, k, q :: t => (sv_max q.1 k, q.2) :: t
  | v + 1, k, q :: t => q :: sv_upl v k t
def sv_uph : Nat → Int → List SvB → List SvB
  | _, _, [] => []
  | 0, k, q :: t => (q.1, match q.2 with | some h => some (sv_min h k) | none => some k) :: t
  | v + 1, k, q :: t => q :: sv_uph v k t
/-- what is not negative from here on -/
def sv_asm (S : SvS) (e : SvL) : SvS := match e.2 with
  | [] => bif sv_ge0 e.1 then S else (S.1, S.2.1, S.2.2.1, (0, [], [e]) :: S.2.2.2)
  | [(v, c)] => bif sv_ieq c 1 then (sv_upl v (Int.neg e.1) S.1, S.2) else bif sv_ieq c (-1) then (sv_uph v e.1 S.1, S.2) else (S.1, S.2.1, S.2.2.1, (0, [], [e]) :: S.2.2.2)
  | _ => (S.1, S.2.1, S.2.2.1, (0, [], [e]) :: S.2.2.2)
/-- what is not 0: where a bound is 0 it is one more -/
def sv_asn (S : SvS) (e : SvL) : SvS := match sv_lb S.1 e with
  | some lo => bif sv_ieq lo 0 then sv_asm S (sv_addc e (-1)) else match sv_ub S.1 e with
    | some hi => bif sv_ieq hi 0 then sv_asm S (sv_addc (sv_sc (-1) e) (-1)) else S
    | none => S
  | none => match sv_ub S.1 e with
    | some hi => bif sv_ieq hi 0 then sv_asm S (sv_addc (sv_sc (-1) e) (-1)) else S
    | none => S
/-- a condition on d (0 eq, 1 ne, 2 lt, 3 ge, 4 gt, 5 le): d stands to 0 so -/
def sv_cnd (k : Nat) (S : SvS) (d : SvL) : SvS := match k with
  | 0 => sv_asm (sv_asm S d) (sv_sc (-1) d)
  | 1 => sv_asn S d
  | 2 => sv_asm S (sv_addc (sv_sc (-1) d) (-1))
  | 3 => sv_asm S d
  | 4 => sv_asm S (sv_addc d (-1))
  | _ => sv_asm S (sv_sc (-1) d)
def sv_neg (k : Nat) : Nat := match k with
  | 0 => 1
  | 1 => 0
  | 2 => 3
  | 3 => 2
  | 4 => 5
  | _ => 4
def sv_holds (k : Nat) (z : Int) : Prop := match k with
  | 0 => z = 0
  | 1 => z ≠ 0
  | 2 => z < 0
  | 3 => 0 ≤ z
  | 4 => 0 < z
  | _ => z ≤ 0
def sv_ck : Jvm.ClassFile.Cond → Nat
  | .eq => 0
  | .ne => 1
  | .lt => 2
  | .ge => 3
  | .gt => 4
  | .le => 5
/-- where it is known on which side of 0 a form stands, what is not 0 is one more -/
def sv_cnp (s : Int) (k : Nat) (S : SvS) (d : SvL) : SvS := bif Nat.beq k 1 then sv_asm S (sv_addc (sv_sc s d) (-1)) else sv_cnd k S d
/-- 0 as it is | 1 d is not below 0, a certificate | 2 not above -/
def sv_brs (S : SvS) (rest : List SvA) (d : SvL) (k : Nat) (o : Int) (pc : Nat) (w : List Nat) : Option (List (SvS × Nat) × List Nat) := match w with
  | [] => none
  | md :: w1 => bif sv_ge0 (Int.add (Int.ofNat pc) o) then (bif Nat.beq md 0 then some ([(sv_cnd k (S.1, S.2.1, rest, S.2.2.2) d, (Int.add (Int.ofNat pc) o).toNat), (sv_cnd (sv_neg k) (S.1, S.2.1, rest, S.2.2.2) d, pc + 3)], w1)
    else match sv_rcert w1 with
      | some (c, w2) => bif sv_prove S.1 S.2.2.2 c (sv_sc (bif Nat.beq md 1 then 1 else -1) d) then some ([(sv_cnp (bif Nat.beq md 1 then 1 else -1) k (S.1, S.2.1, rest, S.2.2.2) d, (Int.add (Int.ofNat pc) o).toNat), (sv_cnp (bif Nat.beq md 1 then 1 else -1) (sv_neg k) (S.1, S.2.1, rest, S.2.2.2) d, pc + 3)], w2) else none
      | none => none) else none
def sv_tab (S : SvS) (rest : List SvA) (e : SvL) (pc : Nat) : Int → List Int → Option (List (SvS × Nat))
  | _, [] => some []
  | k, o :: t => match sv_tab S rest e pc (Int.add k 1) t with
    | some l => bif sv_ge0 (Int.add (Int.ofNat pc) o) then some ((sv_cnd 0 (S.1, S.2.1, rest, S.2.2.2) (sv_addc e (Int.neg k)), (Int.add (Int.ofNat pc) o).toNat) :: l) else none
    | none => none
/-- branches; a comparison of longs goes with the branch behind it -/
def sv_C (cc : ByteArray) (S : SvS) (pc : Nat) (i : Instr) (n : Nat) (w : List Nat) : Option (List (SvS × Nat) × List Nat) := match i with
  | .ifCond cd o => match S.2.2.1 with | (1, a) :: r => bif Nat.beq n 3 then sv_brs S r a (sv_ck cd) o pc w else none | _ => none
  | .if_icmp cd o => match S.2.2.1 with | (1, b) :: (1, a) :: r => bif Nat.beq n 3 then sv_brs S r (sv_sub a b) (sv_ck cd) o pc w else none | _ => none
  | .lcmp => match S.2.2.1 with
    | (2, b) :: (2, a) :: r => bif Nat.beq n 1 then (match decode cc (pc + 1) with
      | .ok (.ifCond cd o, 3) => sv_brs S r (sv_sub a b) (sv_ck cd) o (pc + 1) w
      | _ => none) else none
    | _ => none
  | .ifnull o => match S.2.2.1 with | (3, a) :: r => bif Nat.beq n 3 && sv_ge0 (Int.add (Int.ofNat pc) o) then some ([(sv_cnd 0 (S.1, S.2.1, r, S.2.2.2) (sv_addc a 1), (Int.add (Int.ofNat pc) o).toNat), (sv_asm (S.1, S.2.1, r, S.2.2.2) a, pc + 3)], w) else none | _ => none
  | .ifnonnull o => match S.2.2.1 with | (3, a) :: r => bif Nat.beq n 3 && sv_ge0 (Int.add (Int.ofNat pc) o) then some ([(sv_asm (S.1, S.2.1, r, S.2.2.2) a, (Int.add (Int.ofNat pc) o).toNat), (sv_cnd 0 (S.1, S.2.1, r, S.2.2.2) (sv_addc a 1), pc + 3)], w) else none | _ => none
  | .tableswitch df lo hi offs => match S.2.2.1 with
    | (1, a) :: r => match sv_tab S r a pc lo offs.toList with
      | some l => bif sv_ge0 (Int.add (Int.ofNat pc) df) && sv_ieq (Int.add lo (Int.ofNat offs.toList.length)) (Int.add hi 1) then some ((sv_asm (S.1, S.2.1, r, S.2.2.2) (sv_addc (sv_sc (-1) a) (Int.sub lo 1)), (Int.add (Int.ofNat pc) df).toNat) :: (sv_asm (S.1, S.2.1, r, S.2.2.2) (sv_addc a (Int.sub (-1) hi)), (Int.add (Int.ofNat pc) df).toNat) :: l, w) else none
      | none => none
    | _ => none
  | _ => none
theorem sv_upl_ok {ρ : List Int} {b : List SvB} (hb : sv_BOk ρ b) {v : Nat} {k x : Int} (hv : sv_nth ρ v = some x) (h : k ≤ x) : sv_BOk ρ (sv_upl v k b) := by
  have hl : ∀ (b : List SvB) (v : Nat), (sv_upl v k b).length = b.length := by
    intro b
    induction b with
    | nil => intro v; simp [sv_upl, sv_uph]
    | cons q t ih =>
      intro v
      cases v with
      | zero => rfl
      | succ v => simp only [sv_upl, List.length_cons, ih]
  have hn : ∀ (b : List SvB) (v i : Nat) (q : SvB), sv_nth (sv_upl v k b) i = some q → sv_nth b i = some q ∨ (i = v ∧ ∃ q0, sv_nth b i = some q0 ∧ q = (sv_max q0.1 k, q0.2)) := by
    intro b
    induction b with
    | nil => intro v i q h; simp [sv_upl, sv_nth] at h
    | cons q0 t ih =>
      intro v i q h
      cases v with
      | zero =>
        cases i with
        | zero =>
          simp only [sv_upl, sv_nth, Option.some.injEq] at h
          exact Or.inr ⟨rfl, q0, rfl, h.symm⟩
        | succ i => exact Or.inl h
      | succ v =>
        cases i with
        | zero => exact Or.inl h
        | succ i =>
          simp only [sv_upl, sv_nth] at h
          rcases ih v i q h with h | ⟨h1, h2⟩
          · exact Or.inl h
          · exact Or.inr ⟨by omega, h2⟩
  refine ⟨by rw [hl]; exact hb.1, fun i y q hy hq => ?_⟩
  rcases hn b v i q hq with h1 | ⟨rfl, q0, h1, rfl⟩
  · exact hb.2 i y q hy h1
  · rw [hv] at hy
    cases hy
    have h2 := hb.2 i x q0 hv h1
    refine ⟨?_, h2.2⟩
    show sv_max q0.1 k ≤ x
    unfold sv_max
    cases sv_le q0.1 k with
    | true => exact h
    | false => exact h2.1
theorem sv_uph_ok {ρ : List Int} {b : List SvB} (hb : sv_BOk ρ b) {v : Nat} {k x : Int} (hv : sv_nth ρ v = some x) (h : x ≤ k) : sv_BOk ρ (sv_uph v k b) := by
  have hl : ∀ (b : List SvB) (v : Nat), (sv_uph v k b).length = b.length := by
    intro b
    induction b with
    | nil => intro v; simp [sv_upl, sv_uph]
    | cons q t ih =>
      intro v
      cases v with
      | zero => rfl
      | succ v => simp only [sv_uph, List.length_cons, ih]
  have hn : ∀ (b : List SvB) (v i : Nat) (q : SvB), sv_nth (sv_uph v k b) i = some q → sv_nth b i = some q ∨ (i = v ∧ ∃ q0, sv_nth b i = some q0 ∧ q = (q0.1, match q0.2 with | some h => some (sv_min h k) | none => some k)) := by
    intro b
    induction b with
    | nil => intro v i q h; simp [sv_uph, sv_nth] at h
    | cons q0 t ih =>
      intro v i q h
      cases v with
      | zero =>
        cases i with
        | zero =>
          simp only [sv_uph, sv_nth, Option.some.injEq] at h
          exact Or.inr ⟨rfl, q0, rfl, h.symm⟩
        | succ i => exact Or.inl h
      | succ v =>
        cases i with
        | zero => exact Or.inl h
        | succ i =>
          simp only [sv_uph, sv_nth] at h
          rcases ih v i q h with h | ⟨h1, h2⟩
          · exact Or.inl h
          · exact Or.inr ⟨by omega, h2⟩
  refine ⟨by rw [hl]; exact hb.1, fun i y q hy hq => ?_⟩
  rcases hn b v i q hq with h1 | ⟨rfl, q0, h1, rfl⟩
  · exact hb.2 i y q hy h1
  · rw [hv] at hy
    cases hy
    have h2 := hb.2 i x q0 hv h1
    refine ⟨h2.1, fun h3 h4 => ?_⟩
    cases hq0 : q0.2 with
    | none =>
      simp only [hq0, Option.some.injEq] at h4
      omega
    | some h5 =>
      simp only [hq0, Option.some.injEq] at h4
      have h6 := h2.2 h5 hq0
      rw [← h4]
      unfold sv_min
      cases sv_le h5 k with
      | true => exact h6
      | false => exact h
section SVD
variable {P : Nat → List Nat → List Int → (Nat → Nat) → Heap → Prop} {D : va_G} {kd : List SvK} {κ : Nat → Nat} {H : Heap} {ρ : List Int} {nL : Nat} {ls : Array Slot} {st : List Value} {S : SvS}
theorem sv_fact_ok {e : SvL} {x : Int} (hS : sv_Sat P D kd κ H ρ nL ls st S) (he : sv_ev ρ e = some x) (h0 : 0 ≤ x) : sv_Sat P D kd κ H ρ nL ls st (S.1, S.2.1, S.2.2.1, (0, [], [e]) :: S.2.2.2) := by
  refine ⟨hS.1, hS.2.1, hS.2.2.1, fun f hf => ?_⟩
  rcases List.mem_cons.mp hf with rfl | hf
  · exact ⟨[x], sv_evs_cons.mpr ⟨x, [], he, rfl, rfl⟩, h0⟩
  · exact hS.2.2.2 f hf
theorem sv_asm_ok {e : SvL} {x : Int} (hS : sv_Sat P D kd κ H ρ nL ls st S) (he : sv_ev ρ e = some x) (h0 : 0 ≤ x) : sv_Sat P D kd κ H ρ nL ls st (sv_asm S e) := by
  unfold sv_asm
  split
  · cases h1 : sv_ge0 e.1 with
    | true => exact hS
    | false => exact sv_fact_ok hS he h0
  · rename_i v c hc
    obtain ⟨z, hz, rfl⟩ := sv_ev_iff.mp he
    rw [hc] at hz
    obtain ⟨y, u, g1, g2, rfl⟩ := sv_evT_cons.mp hz
    simp only [sv_evT, Option.some.injEq] at g2
    subst g2
    cases h1 : sv_ieq c 1 with
    | true =>
      have e1 := (sv_ieq_iff _ _).mp h1
      subst e1
      simp only [cond_true]
      exact ⟨sv_upl_ok hS.1 g1 (by show -e.1 ≤ y; omega), hS.2⟩
    | false =>
      simp only [cond_false]
      cases h2 : sv_ieq c (-1) with
      | true =>
        have e1 := (sv_ieq_iff _ _).mp h2
        subst e1
        simp only [cond_true]
        exact ⟨sv_uph_ok hS.1 g1 (by omega), hS.2⟩
      | false =>
        simp only [cond_false]
        exact sv_fact_ok hS he h0
  · exact sv_fact_ok hS he h0
theorem sv_asn_ok {e : SvL} {x : Int} (hS : sv_Sat P D kd κ H ρ nL ls st S) (he : sv_ev ρ e = some x) (h0 : x ≠ 0) : sv_Sat P D kd κ H ρ nL ls st (sv_asn S e) := by
  have up : ∀ hi, sv_ub S.1 e = some hi → sv_ieq hi 0 = true → sv_Sat P D kd κ H ρ nL ls st (sv_asm S (sv_addc (sv_sc (-1) e) (-1))) := fun hi h1 h2 => by
    have e1 := (sv_ieq_iff _ _).mp h2
    have e2 := sv_ub_ok hS.1 he h1
    exact sv_asm_ok hS (sv_ev_addc (sv_ev_sc he)) (by omega)
  unfold sv_asn
  split
  · rename_i lo hl
    cases h1 : sv_ieq lo 0 with
    | true =>
      have e1 := (sv_ieq_iff _ _).mp h1
      have e2 := sv_lb_ok hS.1 he hl
      exact sv_asm_ok hS (sv_ev_addc he) (by omega)
    | false =>
      simp only [cond_false]
      split
      · rename_i hi hu
        cases h2 : sv_ieq hi 0 with
        | true => exact up hi hu h2
        | false => exact hS
      · exact hS
  · split
    · rename_i hi hu
      cases h2 : sv_ieq hi 0 with
      | true => exact up hi hu h2
      | false => exact hS
    · exact hS
theorem sv_cnd_ok {d : SvL} {z : Int} {k : Nat} (hS : sv_Sat P D kd κ H ρ nL ls st S) (he : sv_ev ρ d = some z) (h : sv_holds k z) : sv_Sat P D kd κ H ρ nL ls st (sv_cnd k S d) := by
  unfold sv_holds at h
  unfold sv_cnd
  split
  · have h : z = 0 := h
    exact sv_asm_ok (sv_asm_ok hS he (by omega)) (sv_ev_sc he) (by omega)
  · exact sv_asn_ok hS he h
  · have h : z < 0 := h
    exact sv_asm_ok hS (sv_ev_addc (sv_ev_sc he)) (by omega)
  · exact sv_asm_ok hS he h
  · have h : 0 < z := h
    exact sv_asm_ok hS (sv_ev_addc he) (by omega)
  · have h : z ≤ 0 := by
      split at h <;> first | omega | exact h | contradiction
    exact sv_asm_ok hS (sv_ev_sc he) (by omega)
theorem sv_cnp_ok {d : SvL} {z s : Int} {k : Nat} (hS : sv_Sat P D kd κ H ρ nL ls st S) (he : sv_ev ρ d = some z) (h : sv_holds k z) (hs : s = 1 ∨ s = -1) (h0 : 0 ≤ s * z) : sv_Sat P D kd κ H ρ nL ls st (sv_cnp s k S d) := by
  unfold sv_cnp
  cases hq : Nat.beq k 1 with
  | false => exact sv_cnd_ok hS he h
  | true =>
    have e := Nat.eq_of_beq_eq_true hq
    subst e
    have h : z ≠ 0 := h
    refine sv_asm_ok hS (sv_ev_addc (sv_ev_sc he)) ?_
    rcases hs with rfl | rfl <;> omega
theorem sv_neg_ok {k : Nat} {z : Int} (h : ¬ sv_holds k z) (hk : k < 6) : sv_holds (sv_neg k) z := by
  have h6 : k = 0 ∨ k = 1 ∨ k = 2 ∨ k = 3 ∨ k = 4 ∨ k = 5 := by omega
  rcases h6 with rfl | rfl | rfl | rfl | rfl | rfl <;> simp only [sv_holds, sv_neg] at h ⊢ <;> omega
end SVD
theorem sv_ck_lt (cd : Jvm.ClassFile.Cond) : sv_ck cd < 6 := by cases cd <;> decide
theorem sv_i0 : (0 : Int32).toInt = 0 := by decide
theorem sv_hc (cd : Jvm.ClassFile.Cond) (x y : Int32) : sv_holds (sv_ck cd) (x.toInt - y.toInt) ↔ (match cd with | .eq => x = y | .ne => ¬ x = y | .lt => x < y | .ge => y ≤ x | .gt => y < x | .le => x ≤ y) := by
  cases cd
  · show x.toInt - y.toInt = 0 ↔ x = y
    rw [← Int32.toInt_inj]
    omega
  · show x.toInt - y.toInt ≠ 0 ↔ ¬ x = y
    rw [← Int32.toInt_inj]
    omega
  · show x.toInt - y.toInt < 0 ↔ x < y
    rw [Int32.lt_iff_toInt_lt]
    omega
  · show 0 ≤ x.toInt - y.toInt ↔ y ≤ x
    rw [Int32.le_iff_toInt_le]
    omega
  · show 0 < x.toInt - y.toInt ↔ y < x
    rw [Int32.lt_iff_toInt_lt]
    omega
  · show x.toInt - y.toInt ≤ 0 ↔ x ≤ y
    rw [Int32.le_iff_toInt_le]
    omega
theorem sv_hc0 (cd : Jvm.ClassFile.Cond) (x : Int32) : sv_holds (sv_ck cd) x.toInt ↔ (match cd with | .eq => x = 0 | .ne => ¬ x = 0 | .lt => x < 0 | .ge => 0 ≤ x | .gt => 0 < x | .le => x ≤ 0) := by
  have h := sv_hc cd x 0
  rw [sv_i0, Int.sub_zero] at h
  exact h
section SVE
variable {p : Program} {l : Launch} {e : Env} {R : Room} {s : State} {m : MethodId} {args : Array Value} {below : List Frame} {meth : Method} {c : Code} {Q : State → Prop}
variable {H : Heap} {locs : List Loc} {cells slots : Nat} {ls : Array Slot} {rest : List Value} {cc : ByteArray} {pc tgt : Nat}
theorem sv_ifrow (hx : p.tables.exec = Jvm.exec) (hb : c.code = cc) {cd : Jvm.ClassFile.Cond} {o : Int} {x : Int32} (hd : decode cc pc = .ok (.ifCond cd o, 3)) (ht : (pc : Int) + o = (tgt : Int))
    (kt : sv_holds (sv_ck cd) x.toInt → W p l e R s m args below meth c H locs cells slots Q (F0 m tgt ls rest)) (kf : ¬ sv_holds (sv_ck cd) x.toInt → W p l e R s m args below meth c H locs cells slots Q (F0 m (pc + 3) ls rest)) : W p l e R s m args below meth c H locs cells slots Q (F0 m pc ls (.int x :: rest)) := by
  have hc := sv_hc0 cd x
  cases cd
  · exact lv_if_eq hx hb hd ht (fun h => kt (hc.mpr h)) (fun h => kf (fun q => h (hc.mp q)))
  · exact lv_if_ne hx hb hd ht (fun h => kt (hc.mpr h)) (fun h => kf (fun q => absurd h (by first | exact hc.mp q | exact fun r => r (hc.mp q))))
  · exact lv_if_lt hx hb hd ht (fun h => kt (hc.mpr h)) (fun h => kf (fun q => h (hc.mp q)))
  · exact lv_if_ge hx hb hd ht (fun h => kt (hc.mpr h)) (fun h => kf (fun q => h (hc.mp q)))
  · exact lv_if_gt hx hb hd ht (fun h => kt (hc.mpr h)) (fun h => kf (fun q => h (hc.mp q)))
  · exact lv_if_le hx hb hd ht (fun h => kt (hc.mpr h)) (fun h => kf (fun q => h (hc.mp q)))
theorem sv_icrow (hx : p.tables.exec = Jvm.exec) (hb : c.code = cc) {cd : Jvm.ClassFile.Cond} {o : Int} {x y : Int32} (hd : decode cc pc = .ok (.if_icmp cd o, 3)) (ht : (pc : Int) + o = (tgt : Int))
    (kt : sv_holds (sv_ck cd) (x.toInt - y.toInt) → W p l e R s m args below meth c H locs cells slots Q (F0 m tgt ls rest)) (kf : ¬ sv_holds (sv_ck cd) (x.toInt - y.toInt) → W p l e R s m args below meth c H locs cells slots Q (F0 m (pc + 3) ls rest)) : W p l e R s m args below meth c H locs cells slots Q (F0 m pc ls (.int y :: .int x :: rest)) := by
  have hc := sv_hc cd x y
  cases cd
  · exact lv_icmp_eq hx hb hd ht (fun h => kt (hc.mpr h)) (fun h => kf (fun q => h (hc.mp q)))
  · exact lv_icmp_ne hx hb hd ht (fun h => kt (hc.mpr h)) (fun h => kf (fun q => absurd h (by first | exact hc.mp q | exact fun r => r (hc.mp q))))
  · exact lv_icmp_lt hx hb hd ht (fun h => kt (hc.mpr h)) (fun h => kf (fun q => h (hc.mp q)))
  · exact lv_icmp_ge hx hb hd ht (fun h => kt (hc.mpr h)) (fun h => kf (fun q => h (hc.mp q)))
  · exact lv_icmp_gt hx hb hd ht (fun h => kt (hc.mpr h)) (fun h => kf (fun q => h (hc.mp q)))
  · exact lv_icmp_le hx hb hd ht (fun h => kt (hc.mpr h)) (fun h => kf (fun q => h (hc.mp q)))
end SVE
theorem sv_lgc (x y : Int64) : (lg_cmp x y).toInt = if y.toInt < x.toInt then 1 else if x.toInt = y.toInt then 0 else -1 := by
  unfold lg_cmp
  simp only [gt_iff_lt, Int64.lt_iff_toInt_lt, ← Int64.toInt_inj]
  split
  · rfl
  · split <;> rfl
theorem sv_lgh (cd : Jvm.ClassFile.Cond) (x y : Int64) : sv_holds (sv_ck cd) (lg_cmp x y).toInt ↔ sv_holds (sv_ck cd) (x.toInt - y.toInt) := by
  rw [sv_lgc]
  have key : ∀ z : Int, (if y.toInt < x.toInt then (1 : Int) else if x.toInt = y.toInt then 0 else -1) = z → ((z = 0 ↔ x.toInt - y.toInt = 0) ∧ (z < 0 ↔ x.toInt - y.toInt < 0) ∧ (0 < z ↔ 0 < x.toInt - y.toInt)) := by
    intro z hz
    split at hz
    · omega
    · split at hz <;> omega
  obtain ⟨h1, h2, h3⟩ := key _ rfl
  generalize (if y.toInt < x.toInt then (1 : Int) else if x.toInt = y.toInt then 0 else -1) = z at h1 h2 h3 ⊢
  cases cd <;> simp only [sv_ck, sv_holds] <;> omega
section SVA2
variable {p : Program} {l : Launch} {e : Env} {R : Room} {s : State} {m : MethodId} {args : Array Value} {below : List Frame} {meth : Method} {c : Code} {Q : State → Prop}
variable {P : Nat → List Nat → List Int → (Nat → Nat) → Heap → Prop} {D : va_G} {AC : Nat → ClassId} {kd : List SvK} {B0 : Nat} {κ0 : Nat → Nat} {mF mA : List Nat} {Px : List Int → Prop} {nL : Nat} {cc : ByteArray} {pc n : Nat} {w w' : List Nat} {S : SvS} {r : List (SvS × Nat)}
/-- two ways, by a condition on the operands -/
theorem sv_brs_ok {rest : List SvA} {d : SvL} {cd : Jvm.ClassFile.Cond} {o : Int} {pc0 : Nat} (h : sv_brs S rest d (sv_ck cd) o pc w = some (r, w')) (hk : ∀ q ∈ r, sv_Good p l e R s m args below meth c Q P D AC kd B0 κ0 mF mA Px nL q.1 q.2)
    (hr : ∀ (κ : Nat → Nat) (H : Heap) (locs : List Loc) (cells slots : Nat) (ρ : List Int) (ls : Array Slot) (st : List Value) (tgt : Nat), sv_StOk ρ S.2.2.1 st → (pc : Int) + o = (tgt : Int) → ∃ (z : Int) (st' : List Value), sv_StOk ρ rest st' ∧ sv_ev ρ d = some z ∧
      ((sv_holds (sv_ck cd) z → W p l e R s m args below meth c H locs cells slots Q (F0 m tgt ls st')) → (¬ sv_holds (sv_ck cd) z → W p l e R s m args below meth c H locs cells slots Q (F0 m (pc + 3) ls st')) → W p l e R s m args below meth c H locs cells slots Q (F0 m pc0 ls st))) : sv_Good p l e R s m args below meth c Q P D AC kd B0 κ0 mF mA Px nL S pc0 := by
  unfold sv_brs at h
  split at h
  · cases h
  rename_i md w1
  cases hq : sv_ge0 (Int.add (Int.ofNat pc) o) with
  | false => simp only [hq, cond_false] at h; cases h
  | true =>
    simp only [hq, cond_true] at h
    rw [sv_ge0_iff] at hq
    intro κ H locs ρ ls st hI hP hS
    obtain ⟨z, st', h1, h2, h3⟩ := hr κ H locs _ _ ρ ls st (Int.add (Int.ofNat pc) o).toNat hS.2.2.1 (Int.toNat_of_nonneg hq).symm
    have hS' := sv_pop_ok hS h1
    cases hm : Nat.beq md 0 with
    | true =>
      simp only [hm, cond_true, Option.some.injEq, Prod.mk.injEq] at h
      obtain ⟨rfl, -⟩ := h
      exact h3 (fun g => hk _ List.mem_cons_self κ H locs ρ ls st' hI hP (sv_cnd_ok hS' h2 g)) (fun g => hk _ (List.mem_cons_of_mem _ List.mem_cons_self) κ H locs ρ ls st' hI hP (sv_cnd_ok hS' h2 (sv_neg_ok g (sv_ck_lt cd))))
    | false =>
      simp only [hm, cond_false] at h
      split at h
      · rename_i c0 w2 hc0
        have hs : (bif Nat.beq md 1 then (1 : Int) else -1) = 1 ∨ (bif Nat.beq md 1 then (1 : Int) else -1) = -1 := by
          cases Nat.beq md 1 with
          | true => exact Or.inl rfl
          | false => exact Or.inr rfl
        generalize (bif Nat.beq md 1 then (1 : Int) else -1) = sg at h hs
        cases hp : sv_prove S.1 S.2.2.2 c0 (sv_sc sg d) with
        | false => simp only [hp, cond_false] at h; cases h
        | true =>
          simp only [hp, cond_true, Option.some.injEq, Prod.mk.injEq] at h
          obtain ⟨rfl, -⟩ := h
          have h0 := sv_prove_ok hS.1 hS.2.2.2 (sv_ev_sc (k := sg) h2) hp
          exact h3 (fun g => hk _ List.mem_cons_self κ H locs ρ ls st' hI hP (sv_cnp_ok hS' h2 g hs h0)) (fun g => hk _ (List.mem_cons_of_mem _ List.mem_cons_self) κ H locs ρ ls st' hI hP (sv_cnp_ok hS' h2 (sv_neg_ok g (sv_ck_lt cd)) hs h0))
      · cases h
theorem sv_tab_ok {rest : List SvA} {a : SvL} : ∀ {offs : List Int} {k : Int} {t : List (SvS × Nat)}, sv_tab S rest a pc k offs = some t → ∀ (j : Nat) (o : Int), offs[j]? = some o → 0 ≤ (pc : Int) + o ∧ (sv_cnd 0 (S.1, S.2.1, rest, S.2.2.2) (sv_addc a (Int.neg (k + j))), ((pc : Int) + o).toNat) ∈ t
  | [], k, t, _, j, o, ho => by simp at ho
  | o1 :: offs, k, t, h, j, o, ho => by
    simp only [sv_tab] at h
    split at h
    · rename_i t1 h1
      cases hq : sv_ge0 (Int.add (Int.ofNat pc) o1) with
      | false => simp only [hq, cond_false] at h; cases h
      | true =>
        simp only [hq, cond_true, Option.some.injEq] at h
        subst h
        cases j with
        | zero =>
          simp only [List.getElem?_cons_zero, Option.some.injEq] at ho
          subst ho
          refine ⟨(sv_ge0_iff _).mp hq, ?_⟩
          have e : k + ((0 : Nat) : Int) = k := by omega
          rw [e]
          exact List.mem_cons_self
        | succ j =>
          rw [List.getElem?_cons_succ] at ho
          obtain ⟨g1, g2⟩ := sv_tab_ok h1 j o ho
          refine ⟨g1, ?_⟩
          have e : k + ((j + 1 : Nat) : Int) = Int.add k 1 + (j : Int) := by
            show _ = k + 1 + (j : Int)
            omega
          rw [e]
          exact List.mem_cons_of_mem _ g2
    · simp at h
theorem sv_C_ok (hx : p.tables.exec = Jvm.exec) (hb : c.code = cc) {i : Instr} (hd : decode cc pc = .ok (i, n)) (h : sv_C cc S pc i n w = some (r, w')) (hk : ∀ q ∈ r, sv_Good p l e R s m args below meth c Q P D AC kd B0 κ0 mF mA Px nL q.1 q.2) : sv_Good p l e R s m args below meth c Q P D AC kd B0 κ0 mF mA Px nL S pc := by
  unfold sv_C at h
  split at h
  · rename_i cd o
    split at h
    · rename_i a rest hst
      cases hq : Nat.beq n 3 with
      | false => simp only [hq, cond_false] at h; cases h
      | true =>
        simp only [hq, cond_true] at h
        have hn := Nat.eq_of_beq_eq_true hq
        subst hn
        refine sv_brs_ok h hk (fun κ H locs cells slots ρ ls st tgt hs ht => ?_)
        rw [hst] at hs
        obtain ⟨v1, vs1, rfl, q1, hs1⟩ := sv_StOk_cons hs
        obtain ⟨x, rfl, p1⟩ := sv_VOk1 q1
        exact ⟨x.toInt, vs1, hs1, p1, fun kt kf => sv_ifrow hx hb hd ht kt kf⟩
    · simp at h
  · rename_i cd o
    split at h
    · rename_i b a rest hst
      cases hq : Nat.beq n 3 with
      | false => simp only [hq, cond_false] at h; cases h
      | true =>
        simp only [hq, cond_true] at h
        have hn := Nat.eq_of_beq_eq_true hq
        subst hn
        refine sv_brs_ok h hk (fun κ H locs cells slots ρ ls st tgt hs ht => ?_)
        rw [hst] at hs
        obtain ⟨v1, vs1, rfl, q1, hs1⟩ := sv_StOk_cons hs
        obtain ⟨v2, vs2, rfl, q2, hs2⟩ := sv_StOk_cons hs1
        obtain ⟨y, rfl, p1⟩ := sv_VOk1 q1
        obtain ⟨x, rfl, p2⟩ := sv_VOk1 q2
        exact ⟨x.toInt - y.toInt, vs2, hs2, sv_ev_sub p2 p1, fun kt kf => sv_icrow hx hb hd ht kt kf⟩
    · simp at h
  · split at h
    · rename_i b a rest hst
      cases hq : Nat.beq n 1 with
      | false => simp only [hq, cond_false] at h; cases h
      | true =>
        simp only [hq, cond_true] at h
        have hn := Nat.eq_of_beq_eq_true hq
        subst hn
        split at h
        · rename_i cd o hd2
          refine sv_brs_ok h hk (fun κ H locs cells slots ρ ls st tgt hs ht => ?_)
          rw [hst] at hs
          obtain ⟨v1, vs1, rfl, q1, hs1⟩ := sv_StOk_cons hs
          obtain ⟨v2, vs2, rfl, q2, hs2⟩ := sv_StOk_cons hs1
          obtain ⟨y, rfl, p1⟩ := sv_VOk2 q1
          obtain ⟨x, rfl, p2⟩ := sv_VOk2 q2
          refine ⟨x.toInt - y.toInt, vs2, hs2, sv_ev_sub p2 p1, fun kt kf => W.lcmp hx hb hd (sv_ifrow hx hb hd2 ht (fun g => kt ((sv_lgh cd x y).mp g)) (fun g => kf (fun q => g ((sv_lgh cd x y).mpr q))))⟩
        · simp at h
    · simp at h
  · rename_i o
    split at h
    · rename_i a rest hst
      cases hq : (Nat.beq n 3 && sv_ge0 (Int.add (Int.ofNat pc) o)) with
      | false => simp only [hq, cond_false] at h; cases h
      | true =>
        simp only [hq, cond_true, Option.some.injEq, Prod.mk.injEq] at h
        obtain ⟨rfl, -⟩ := h
        rw [Bool.and_eq_true, sv_ge0_iff] at hq
        have hn := Nat.eq_of_beq_eq_true hq.1
        subst hn
        intro κ H locs ρ ls st hI hP hS
        have hs := hS.2.2.1
        rw [hst] at hs
        obtain ⟨v1, vs1, rfl, q1, hs1⟩ := sv_StOk_cons hs
        have hS' := sv_pop_ok hS hs1
        rcases sv_VOk3 q1 with ⟨rfl, p1⟩ | ⟨x, rfl, p1⟩
        · exact lv_ifnullN hx hb hd (tgt := (Int.add (Int.ofNat pc) o).toNat) (Int.toNat_of_nonneg hq.2).symm (hk _ List.mem_cons_self κ H locs ρ ls vs1 hI hP (sv_cnd_ok hS' (sv_ev_addc p1) rfl))
        · exact lv_ifnull hx hb hd (hk _ (List.mem_cons_of_mem _ List.mem_cons_self) κ H locs ρ ls vs1 hI hP (sv_asm_ok hS' p1 (Int.natCast_nonneg x)))
    · simp at h
  · rename_i o
    split at h
    · rename_i a rest hst
      cases hq : (Nat.beq n 3 && sv_ge0 (Int.add (Int.ofNat pc) o)) with
      | false => simp only [hq, cond_false] at h; cases h
      | true =>
        simp only [hq, cond_true, Option.some.injEq, Prod.mk.injEq] at h
        obtain ⟨rfl, -⟩ := h
        rw [Bool.and_eq_true, sv_ge0_iff] at hq
        have hn := Nat.eq_of_beq_eq_true hq.1
        subst hn
        intro κ H locs ρ ls st hI hP hS
        have hs := hS.2.2.1
        rw [hst] at hs
        obtain ⟨v1, vs1, rfl, q1, hs1⟩ := sv_StOk_cons hs
        have hS' := sv_pop_ok hS hs1
        rcases sv_VOk3 q1 with ⟨rfl, p1⟩ | ⟨x, rfl, p1⟩
        · exact lv_ifnonnullN hx hb hd (hk _ (List.mem_cons_of_mem _ List.mem_cons_self) κ H locs ρ ls vs1 hI hP (sv_cnd_ok hS' (sv_ev_addc p1) rfl))
        · exact lv_ifnonnull hx hb hd (tgt := (Int.add (Int.ofNat pc) o).toNat) (Int.toNat_of_nonneg hq.2).symm (hk _ List.mem_cons_self κ H locs ρ ls vs1 hI hP (sv_asm_ok hS' p1 (Int.natCast_nonneg x)))
    · simp at h
  · rename_i df lo hi offs
    split at h
    · rename_i a rest hst
      split at h
      · rename_i t ht
        cases hq : (sv_ge0 (Int.add (Int.ofNat pc) df) && sv_ieq (Int.add lo (Int.ofNat offs.toList.length)) (Int.add hi 1)) with
        | false => simp only [hq, cond_false] at h; cases h
        | true =>
          simp only [hq, cond_true, Option.some.injEq, Prod.mk.injEq] at h
          obtain ⟨rfl, -⟩ := h
          rw [Bool.and_eq_true, sv_ge0_iff, sv_ieq_iff] at hq
          intro κ H locs ρ ls st hI hP hS
          have hs := hS.2.2.1
          rw [hst] at hs
          obtain ⟨v1, vs1, rfl, q1, hs1⟩ := sv_StOk_cons hs
          obtain ⟨x, rfl, p1⟩ := sv_VOk1 q1
          have hS' := sv_pop_ok hS hs1
          have hlen : lo + (offs.toList.length : Int) = hi + 1 := hq.2
          by_cases h1 : x.toInt < lo
          · refine lv_tableOut hx hb hd (Or.inl h1) (tgt := (Int.add (Int.ofNat pc) df).toNat) (Int.toNat_of_nonneg hq.1).symm (hk _ List.mem_cons_self κ H locs ρ ls vs1 hI hP (sv_asm_ok hS' (sv_ev_addc (sv_ev_sc p1)) ?_))
            show 0 ≤ -1 * x.toInt + (lo - 1)
            omega
          · by_cases h2 : hi < x.toInt
            · refine lv_tableOut hx hb hd (Or.inr h2) (tgt := (Int.add (Int.ofNat pc) df).toNat) (Int.toNat_of_nonneg hq.1).symm (hk _ (List.mem_cons_of_mem _ List.mem_cons_self) κ H locs ρ ls vs1 hI hP (sv_asm_ok hS' (sv_ev_addc p1) ?_))
              show 0 ≤ x.toInt + (-1 - hi)
              omega
            · have hj : (x.toInt - lo).toNat < offs.toList.length := by omega
              obtain ⟨g1, g2⟩ := sv_tab_ok ht (x.toInt - lo).toNat _ (List.getElem?_eq_getElem hj)
              have e1 : lo + (((x.toInt - lo).toNat : Nat) : Int) = x.toInt := by omega
              rw [e1] at g2
              refine lv_tableIn hx hb hd h1 h2 (off := offs.toList[(x.toInt - lo).toNat]) ?_ (Int.toNat_of_nonneg g1).symm (hk _ (List.mem_cons_of_mem _ (List.mem_cons_of_mem _ g2)) κ H locs ρ ls vs1 hI hP (sv_cnd_ok hS' (sv_ev_addc p1) ?_))
              · rw [← Array.getElem?_toList]
                exact List.getElem?_eq_getElem hj
              · show x.toInt + -x.toInt = 0
                omega
      · simp at h
    · simp at h
  · simp at h
end SVA2
