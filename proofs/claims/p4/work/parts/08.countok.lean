theorem sv_n032 {y : Int32} (h : 1 ≤ y.toInt) : ¬ y = 0 := fun q => by subst q; exact absurd h (by decide)
theorem sv_nm32 {y : Int32} (h : 1 ≤ y.toInt) : y ≠ -1 := fun q => by subst q; exact absurd h (by decide)
theorem sv_n064 {y : Int64} (h : 1 ≤ y.toInt) : ¬ y = 0 := fun q => by subst q; exact absurd h (by decide)
theorem sv_nm64 {y : Int64} (h : 1 ≤ y.toInt) : y ≠ -1 := fun q => by subst q; exact absurd h (by decide)
section SVG
variable {P : Nat → List Nat → List Int → (Nat → Nat) → Heap → Prop} {D : va_G} {kd : List SvK} {κ : Nat → Nat} {H : Heap} {ρ : List Int} {nL : Nat} {ls : Array Slot} {st : List Value} {S S' : SvS} {rest : List SvA} {st' : List Value} {t : Nat} {v : Value}
theorem sv_mulv_ok {a b : SvL} {x y : Int} (hS : sv_Sat P D kd κ H ρ nL ls st S) (hr : sv_StOk ρ rest st') (ha : sv_ev ρ a = some x) (hb : sv_ev ρ b = some y) (ht : sv_tag v = t) (ht0 : t ≠ 0) (h1 : sv_lo t ≤ sv_enc v) (h2 : sv_enc v ≤ sv_hi t) (hv : sv_lo t ≤ x * y → x * y ≤ sv_hi t → sv_enc v = x * y) (hlo : sv_lo t ≤ 0) : sv_Sat P D kd κ H (ρ ++ [sv_enc v]) nL ls (v :: st') (sv_mulv t S rest a b) := by
  unfold sv_mulv
  split
  · rename_i la ua lb ub e1 e2 e3 e4
    cases hq : (sv_ge0 la && sv_ge0 lb && sv_le (Int.mul ua ub) (sv_hi t)) with
    | false =>
      simp only [cond_false]
      exact sv_fresh_ok hS hr ht ht0 h1 h2
    | true =>
      simp only [cond_true]
      simp only [Bool.and_eq_true, sv_ge0_iff, sv_le_iff] at hq
      obtain ⟨⟨g1, g2⟩, g3⟩ := hq
      have f1 := sv_lb_ok hS.1 ha e1
      have f2 := sv_ub_ok hS.1 ha e2
      have f3 := sv_lb_ok hS.1 hb e3
      have f4 := sv_ub_ok hS.1 hb e4
      have m1 : la * lb ≤ x * y := Int.mul_le_mul f1 f3 g2 (by omega)
      have m2 : x * y ≤ ua * ub := Int.mul_le_mul f2 f4 (by omega) (by omega)
      have m3 : 0 ≤ la * lb := Int.mul_nonneg g1 g2
      have g3 : ua * ub ≤ sv_hi t := g3
      have hv := hv (by omega) (by omega)
      exact sv_fresh_ok hS hr ht ht0 (by rw [hv]; exact m1) (by rw [hv]; exact m2)
  · exact sv_fresh_ok hS hr ht ht0 h1 h2
theorem sv_and_ok {n : Nat} {x y : BitVec n} {a b : SvL} {w w' : List Nat} (hS : sv_Sat P D kd κ H ρ nL ls st S) (hr : sv_StOk ρ rest st') (h : sv_and t S rest a b w = some (S', w')) (ha : sv_ev ρ a = some x.toInt) (hb : sv_ev ρ b = some y.toInt) (ht : sv_tag v = t) (ht0 : t ≠ 0) (hn : n = sv_bits t) (hv : sv_enc v = (x &&& y).toInt) (h1 : sv_lo t ≤ sv_enc v) (h2 : sv_enc v ≤ sv_hi t) : ∃ τ, sv_Sat P D kd κ H (ρ ++ τ) nL ls (v :: st') S' := by
  unfold sv_and at h
  split at h
  · split at h
    · rename_i lo hl
      split at h
      · rename_i hi hu
        cases hq : sv_ge0 lo with
        | false => simp only [hq, cond_false] at h; cases h
        | true =>
          simp only [hq, cond_true, Option.some.injEq, Prod.mk.injEq] at h
          obtain ⟨rfl, -⟩ := h
          have g0 := (sv_ge0_iff lo).mp hq
          have g1 := sv_lb_ok hS.1 hb hl
          have g2 := sv_ub_ok hS.1 hb hu
          have g3 := sv_bvand x y (by omega)
          exact ⟨_, sv_fresh_ok hS hr ht ht0 (by omega) (by omega)⟩
      · simp at h
    · simp at h
  · split at h
    · rename_i lo hl
      split at h
      · rename_i hi hu
        cases hq : sv_ge0 lo with
        | false => simp only [hq, cond_false] at h; cases h
        | true =>
          simp only [hq, cond_true, Option.some.injEq, Prod.mk.injEq] at h
          obtain ⟨rfl, -⟩ := h
          have g0 := (sv_ge0_iff lo).mp hq
          have g1 := sv_lb_ok hS.1 ha hl
          have g2 := sv_ub_ok hS.1 ha hu
          have g3 := sv_bvand2 x y (by omega)
          exact ⟨_, sv_fresh_ok hS hr ht ht0 (by omega) (by omega)⟩
      · simp at h
    · simp at h
  · rename_i k w1
    split at h
    · rename_i z hc
      cases hq : (sv_ieq z (Int.ofNat (2 ^ k - 1)) && Nat.blt k (sv_bits t)) with
      | false => simp only [hq, cond_false] at h; cases h
      | true =>
        simp only [hq, cond_true] at h
        rw [Bool.and_eq_true] at hq
        have e1 := (sv_ieq_iff _ _).mp hq.1
        have e2 := sv_cst_ok hS.1 hb hc
        have e3 : k < n := by rw [hn]; exact Nat.lt_of_lt_of_le (Nat.lt_succ_self _) (Nat.le_of_ble_eq_true hq.2)
        split at h
        · rename_i S2 hm
          simp only [Option.some.injEq, Prod.mk.injEq] at h
          obtain ⟨rfl, -⟩ := h
          exact ⟨_, sv_modk_ok hS hr hm ha ht ht0 (by rw [hv]; exact sv_bvmask x y e3 (e2.trans e1))⟩
        · simp at h
    · simp at h
  · simp only [Option.some.injEq, Prod.mk.injEq] at h
    obtain ⟨rfl, -⟩ := h
    exact ⟨_, sv_fresh_ok hS hr ht ht0 h1 h2⟩
  · simp at h
theorem sv_dvdT_ok {K : Int} : ∀ {t : List (Nat × Int)} {y : Int}, sv_dvdT K t = true → sv_evT ρ t = some y → K ∣ y
  | [], y, _, h2 => by
    simp only [sv_evT, Option.some.injEq] at h2
    rw [← h2]
    exact ⟨0, by simp⟩
  | (u, c) :: t, y, h1, h2 => by
    obtain ⟨x, z, g1, g2, rfl⟩ := sv_evT_cons.mp h2
    simp only [sv_dvdT, Bool.and_eq_true, sv_iz_iff] at h1
    exact Int.dvd_add (Int.dvd_mul_of_dvd_left (Int.dvd_of_emod_eq_zero h1.1)) (sv_dvdT_ok h1.2 g2)
theorem sv_dvd_ok {K : Int} {a : SvL} {y : Int} (h1 : sv_dvd K a = true) (h2 : sv_ev ρ a = some y) : K ∣ y := by
  obtain ⟨z, g1, rfl⟩ := sv_ev_iff.mp h2
  simp only [sv_dvd, Bool.and_eq_true, sv_iz_iff] at h1
  exact Int.dvd_add (Int.dvd_of_emod_eq_zero h1.1) (sv_dvdT_ok h1.2 g1)
theorem sv_or_ok {n : Nat} {x y : BitVec n} {a b : SvL} {isOr : Bool} {w w' : List Nat} (hS : sv_Sat P D kd κ H ρ nL ls st S) (hr : sv_StOk ρ rest st') (h : sv_or t S rest a b isOr w = some (S', w')) (ha : sv_ev ρ a = some x.toInt) (hb : sv_ev ρ b = some y.toInt) (ht : sv_tag v = t) (ht0 : t ≠ 0) (hn : n = sv_bits t) (hv : (isOr = true ∧ sv_enc v = (x ||| y).toInt) ∨ (isOr = false ∧ sv_enc v = (x ^^^ y).toInt)) (h1 : sv_lo t ≤ sv_enc v) (h2 : sv_enc v ≤ sv_hi t) (hh : ((2 ^ (n - 1) : Nat) : Int) = sv_hi t + 1) : ∃ τ, sv_Sat P D kd κ H (ρ ++ τ) nL ls (v :: st') S' := by
  have hn0 : 0 < n := by
    rw [hn]
    unfold sv_bits
    cases Nat.beq t 1 <;> decide
  unfold sv_or at h
  split at h
  · rename_i k w1
    cases hq : (sv_in S.1 a 0 (Int.ofNat (2 ^ k - 1)) && sv_in S.1 b 0 (Int.ofNat (2 ^ k - 1)) && Nat.blt k (sv_bits t)) with
    | false => simp only [hq, cond_false] at h; cases h
    | true =>
      simp only [hq, cond_true, Option.some.injEq, Prod.mk.injEq] at h
      obtain ⟨rfl, -⟩ := h
      simp only [Bool.and_eq_true] at hq
      obtain ⟨⟨g1, g2⟩, -⟩ := hq
      have g1 := sv_in_ok hS.1 ha g1
      have g2 := sv_in_ok hS.1 hb g2
      have hp := Nat.two_pow_pos k
      have e0 : Int.ofNat (2 ^ k - 1) = ((2 ^ k : Nat) : Int) - 1 := by
        show ((2 ^ k - 1 : Nat) : Int) = _
        omega
      rw [e0] at g1 g2
      have f1 := sv_bvor (k := k) hn0 x y g1.1 g2.1 (by omega) (by omega)
      have f2 := sv_bvxor (k := k) hn0 x y g1.1 g2.1 (by omega) (by omega)
      refine ⟨_, sv_fresh_ok hS hr ht ht0 ?_ ?_⟩
      · rcases hv with ⟨-, hv⟩ | ⟨-, hv⟩ <;> omega
      · rw [e0]; rcases hv with ⟨-, hv⟩ | ⟨-, hv⟩ <;> omega
  · rename_i k w1
    cases hq : (isOr && sv_in S.1 a 0 (sv_hi t) && sv_in S.1 b 0 (Int.ofNat (2 ^ k - 1)) && sv_in S.1 (sv_add a b) 0 (sv_hi t) && sv_dvd (Int.ofNat (2 ^ k)) a) with
    | false => simp only [hq, cond_false] at h; cases h
    | true =>
      simp only [hq, cond_true, Option.some.injEq, Prod.mk.injEq] at h
      obtain ⟨rfl, -⟩ := h
      simp only [Bool.and_eq_true] at hq
      obtain ⟨⟨⟨⟨g0, g1⟩, g2⟩, g3⟩, g4⟩ := hq
      have g1 := sv_in_ok hS.1 ha g1
      have g2 := sv_in_ok hS.1 hb g2
      have g3 := sv_in_ok hS.1 (sv_ev_add ha hb) g3
      obtain ⟨z, hz⟩ := sv_dvd_ok g4 ha
      have hp := Nat.two_pow_pos k
      have e0 : Int.ofNat (2 ^ k - 1) = ((2 ^ k : Nat) : Int) - 1 := by
        show ((2 ^ k - 1 : Nat) : Int) = _
        omega
      rw [e0] at g2
      have hz0 : 0 ≤ z := by
        by_cases h0 : 0 ≤ z
        · exact h0
        · have h5 : ((2 ^ k : Nat) : Int) * z < 0 := Int.mul_neg_of_pos_of_neg (by omega) (by omega)
          have h6 : x.toInt = ((2 ^ k : Nat) : Int) * z := hz
          omega
      obtain ⟨a', rfl⟩ : ∃ a' : Nat, z = (a' : Int) := ⟨z.toNat, (Int.toNat_of_nonneg hz0).symm⟩
      have f1 := sv_bvors (k := k) hn0 x y g1.1 g2.1 a' (by rw [hz, Int.natCast_mul]; rfl) (by omega) (by omega)
      rcases hv with ⟨-, hv⟩ | ⟨h9, -⟩
      · refine ⟨[], ?_⟩
        rw [List.append_nil]
        exact sv_stk_ok hS hr ⟨ht, ht0, by rw [hv, f1]; exact sv_ev_add ha hb⟩
      · rw [h9] at g0
        cases g0
  · simp only [Option.some.injEq, Prod.mk.injEq] at h
    obtain ⟨rfl, -⟩ := h
    exact ⟨_, sv_fresh_ok hS hr ht ht0 h1 h2⟩
  · simp at h
theorem sv_or2_ok {n : Nat} {x y : BitVec n} {a b : SvL} {isOr : Bool} {w w' : List Nat} (hS : sv_Sat P D kd κ H ρ nL ls st S) (hr : sv_StOk ρ rest st') (h : sv_or2 t S rest a b isOr w = some (S', w')) (ha : sv_ev ρ a = some x.toInt) (hb : sv_ev ρ b = some y.toInt) (ht : sv_tag v = t) (ht0 : t ≠ 0) (hn : n = sv_bits t) (hv : (isOr = true ∧ sv_enc v = (x ||| y).toInt) ∨ (isOr = false ∧ sv_enc v = (x ^^^ y).toInt)) (h1 : sv_lo t ≤ sv_enc v) (h2 : sv_enc v ≤ sv_hi t) (hh : ((2 ^ (n - 1) : Nat) : Int) = sv_hi t + 1) : ∃ τ, sv_Sat P D kd κ H (ρ ++ τ) nL ls (v :: st') S' := by
  unfold sv_or2 at h
  split at h
  · cases isOr with
    | false => simp only [cond_false] at h; cases h
    | true =>
      simp only [cond_true] at h
      refine sv_or_ok (x := y) (y := x) hS hr h hb ha ht ht0 hn (Or.inl ⟨rfl, ?_⟩) h1 h2 hh
      rcases hv with ⟨-, hv⟩ | ⟨h9, -⟩
      · rw [hv, BitVec.or_comm]
      · cases h9
  · exact sv_or_ok hS hr h ha hb ht ht0 hn hv h1 h2 hh
end SVG
section SVC
variable {p : Program} {l : Launch} {e : Env} {R : Room} {s : State} {m : MethodId} {args : Array Value} {below : List Frame} {meth : Method} {c : Code} {Q : State → Prop}
variable {P : Nat → List Nat → List Int → (Nat → Nat) → Heap → Prop} {D : va_G} {AC : Nat → ClassId} {kd : List SvK} {B0 : Nat} {κ0 : Nat → Nat} {mF mA : List Nat} {Px : List Int → Prop} {nL : Nat} {cc : ByteArray} {pc n : Nat} {w w' : List Nat} {S : SvS} {r : List (SvS × Nat)}
theorem sv_cnt (hPx : ∀ ρ τ, Px ρ → Px (ρ ++ τ)) {S' : SvS} {k : Nat} (hk : sv_Good p l e R s m args below meth c Q P D AC kd B0 κ0 mF mA Px nL S' k) (hr : ∀ (κ : Nat → Nat) (H : Heap) (locs : List Loc) (cells slots : Nat) (ρ : List Int) (ls : Array Slot) (st : List Value), sv_Sat P D kd κ H ρ nL ls st S → ∃ (τ : List Int) (st' : List Value), sv_Sat P D kd κ H (ρ ++ τ) nL ls st' S' ∧ (W p l e R s m args below meth c H locs cells slots Q (F0 m k ls st') → W p l e R s m args below meth c H locs cells slots Q (F0 m pc ls st))) : sv_Good p l e R s m args below meth c Q P D AC kd B0 κ0 mF mA Px nL S pc := by
  intro κ H locs ρ ls st hI hP hS
  obtain ⟨τ, st', h1, h2⟩ := hr κ H locs _ _ ρ ls st hS
  exact h2 (hk κ H locs (ρ ++ τ) ls st' hI (hPx ρ τ hP) h1)
theorem sv_B_ok (hPx : ∀ ρ τ, Px ρ → Px (ρ ++ τ)) (hx : p.tables.exec = Jvm.exec) (hb : c.code = cc) {i : Instr} (hd : decode cc pc = .ok (i, n)) (h : sv_B S pc i n w = some (r, w')) (hk : ∀ q ∈ r, sv_Good p l e R s m args below meth c Q P D AC kd B0 κ0 mF mA Px nL q.1 q.2) : sv_Good p l e R s m args below meth c Q P D AC kd B0 κ0 mF mA Px nL S pc := by
  unfold sv_B at h
  cases hn : Nat.beq n 1 with
  | false => simp only [hn, cond_false] at h; cases h
  | true =>
  simp only [hn, cond_true] at h
  have hn := Nat.eq_of_beq_eq_true hn
  subst hn
  split at h
  · split at h
    · rename_i b a rest hst
      obtain ⟨S', w2, h', rfl⟩ := sv_pr_ok h
      refine sv_cnt hPx (hk _ List.mem_cons_self) (fun κ H locs cells slots ρ ls st hS => ?_)
      have hs0 := hS.2.2.1
      rw [hst] at hs0
      obtain ⟨v1, vs1, rfl, q1, hs1⟩ := sv_StOk_cons hs0
      obtain ⟨v2, vs2, rfl, q2, hs⟩ := sv_StOk_cons hs1
      obtain ⟨y, rfl, p1⟩ := sv_VOk1 q1
      obtain ⟨x, rfl, p2⟩ := sv_VOk1 q2
      obtain ⟨τ, hz⟩ := sv_res_ok (t := 1) (v := .int (x + y)) hS hs h' (sv_ev_add p2 p1) rfl (by decide) (sv_r1 _).1 (sv_r1 _).2 (fun h1 h2 => by show (x + y).toInt = _; rw [Int32.toInt_add, sv_bm32 h1 h2])
      exact ⟨τ, _, hz, fun k => lv_iadd hx hb hd k⟩
    · simp at h
  · split at h
    · rename_i b a rest hst
      obtain ⟨S', w2, h', rfl⟩ := sv_pr_ok h
      refine sv_cnt hPx (hk _ List.mem_cons_self) (fun κ H locs cells slots ρ ls st hS => ?_)
      have hs0 := hS.2.2.1
      rw [hst] at hs0
      obtain ⟨v1, vs1, rfl, q1, hs1⟩ := sv_StOk_cons hs0
      obtain ⟨v2, vs2, rfl, q2, hs⟩ := sv_StOk_cons hs1
      obtain ⟨y, rfl, p1⟩ := sv_VOk1 q1
      obtain ⟨x, rfl, p2⟩ := sv_VOk1 q2
      obtain ⟨τ, hz⟩ := sv_res_ok (t := 1) (v := .int (x - y)) hS hs h' (sv_ev_sub p2 p1) rfl (by decide) (sv_r1 _).1 (sv_r1 _).2 (fun h1 h2 => by show (x - y).toInt = _; rw [Int32.toInt_sub, sv_bm32 h1 h2])
      exact ⟨τ, _, hz, fun k => lv_isub hx hb hd k⟩
    · simp at h
  · split at h
    · rename_i b a rest hst
      obtain ⟨S', w2, h', rfl⟩ := sv_pr_ok h
      refine sv_cnt hPx (hk _ List.mem_cons_self) (fun κ H locs cells slots ρ ls st hS => ?_)
      have hs0 := hS.2.2.1
      rw [hst] at hs0
      obtain ⟨v1, vs1, rfl, q1, hs1⟩ := sv_StOk_cons hs0
      obtain ⟨v2, vs2, rfl, q2, hs⟩ := sv_StOk_cons hs1
      obtain ⟨y, rfl, p1⟩ := sv_VOk2 q1
      obtain ⟨x, rfl, p2⟩ := sv_VOk2 q2
      obtain ⟨τ, hz⟩ := sv_res_ok (t := 2) (v := .long (x + y)) hS hs h' (sv_ev_add p2 p1) rfl (by decide) (sv_r2 _).1 (sv_r2 _).2 (fun h1 h2 => by show (x + y).toInt = _; rw [Int64.toInt_add, sv_bm64 h1 h2])
      exact ⟨τ, _, hz, fun k => lv_ladd hx hb hd k⟩
    · simp at h
  · split at h
    · rename_i b a rest hst
      obtain ⟨S', w2, h', rfl⟩ := sv_pr_ok h
      refine sv_cnt hPx (hk _ List.mem_cons_self) (fun κ H locs cells slots ρ ls st hS => ?_)
      have hs0 := hS.2.2.1
      rw [hst] at hs0
      obtain ⟨v1, vs1, rfl, q1, hs1⟩ := sv_StOk_cons hs0
      obtain ⟨v2, vs2, rfl, q2, hs⟩ := sv_StOk_cons hs1
      obtain ⟨y, rfl, p1⟩ := sv_VOk2 q1
      obtain ⟨x, rfl, p2⟩ := sv_VOk2 q2
      obtain ⟨τ, hz⟩ := sv_res_ok (t := 2) (v := .long (x - y)) hS hs h' (sv_ev_sub p2 p1) rfl (by decide) (sv_r2 _).1 (sv_r2 _).2 (fun h1 h2 => by show (x - y).toInt = _; rw [Int64.toInt_sub, sv_bm64 h1 h2])
      exact ⟨τ, _, hz, fun k => lv_lsub hx hb hd k⟩
    · simp at h
  · split at h
    · rename_i a rest hst
      obtain ⟨S', w2, h', rfl⟩ := sv_pr_ok h
      refine sv_cnt hPx (hk _ List.mem_cons_self) (fun κ H locs cells slots ρ ls st hS => ?_)
      have hs0 := hS.2.2.1
      rw [hst] at hs0
      obtain ⟨v1, vs1, rfl, q1, hs⟩ := sv_StOk_cons hs0
      obtain ⟨x, rfl, p1⟩ := sv_VOk1 q1
      obtain ⟨τ, hz⟩ := sv_res_ok (t := 1) (z := -x.toInt) (v := .int (-x)) hS hs h' (by rw [sv_ev_sc p1]; congr 1; omega) rfl (by decide) (sv_r1 _).1 (sv_r1 _).2 (fun h1 h2 => by show (-x).toInt = _; rw [Int32.toInt_neg, sv_bm32 h1 h2])
      exact ⟨τ, _, hz, fun k => lv_ineg hx hb hd k⟩
    · simp at h
  · split at h
    · rename_i a rest hst
      obtain ⟨S', w2, h', rfl⟩ := sv_pr_ok h
      refine sv_cnt hPx (hk _ List.mem_cons_self) (fun κ H locs cells slots ρ ls st hS => ?_)
      have hs0 := hS.2.2.1
      rw [hst] at hs0
      obtain ⟨v1, vs1, rfl, q1, hs⟩ := sv_StOk_cons hs0
      obtain ⟨x, rfl, p1⟩ := sv_VOk2 q1
      obtain ⟨τ, hz⟩ := sv_res_ok (t := 2) (z := -x.toInt) (v := .long (-x)) hS hs h' (by rw [sv_ev_sc p1]; congr 1; omega) rfl (by decide) (sv_r2 _).1 (sv_r2 _).2 (fun h1 h2 => by show (-x).toInt = _; rw [Int64.toInt_neg, sv_bm64 h1 h2])
      exact ⟨τ, _, hz, fun k => lv_lneg hx hb hd k⟩
    · simp at h
  · split at h
    · rename_i b a rest hst
      split at h
      · rename_i k hc
        obtain ⟨S', w2, h', rfl⟩ := sv_pr_ok h
        refine sv_cnt hPx (hk _ List.mem_cons_self) (fun κ H locs cells slots ρ ls st hS => ?_)
        have hs0 := hS.2.2.1
        rw [hst] at hs0
        obtain ⟨v1, vs1, rfl, q1, hs1⟩ := sv_StOk_cons hs0
        obtain ⟨v2, vs2, rfl, q2, hs⟩ := sv_StOk_cons hs1
        obtain ⟨y, rfl, p1⟩ := sv_VOk1 q1
        obtain ⟨x, rfl, p2⟩ := sv_VOk1 q2
        have e1 := sv_cst_ok hS.1 p1 hc
        obtain ⟨τ, hz⟩ := sv_res_ok (t := 1) (z := x.toInt * y.toInt) (v := .int (x * y)) hS hs h' (by rw [sv_ev_sc p2, ← e1, Int.mul_comm]) rfl (by decide) (sv_r1 _).1 (sv_r1 _).2 (fun h1 h2 => by show (x * y).toInt = _; rw [Int32.toInt_mul, sv_bm32 h1 h2])
        exact ⟨τ, _, hz, fun k => lv_imul hx hb hd k⟩
      · split at h
        · rename_i k hc
          obtain ⟨S', w2, h', rfl⟩ := sv_pr_ok h
          refine sv_cnt hPx (hk _ List.mem_cons_self) (fun κ H locs cells slots ρ ls st hS => ?_)
          have hs0 := hS.2.2.1
          rw [hst] at hs0
          obtain ⟨v1, vs1, rfl, q1, hs1⟩ := sv_StOk_cons hs0
          obtain ⟨v2, vs2, rfl, q2, hs⟩ := sv_StOk_cons hs1
          obtain ⟨y, rfl, p1⟩ := sv_VOk1 q1
          obtain ⟨x, rfl, p2⟩ := sv_VOk1 q2
          have e1 := sv_cst_ok hS.1 p2 hc
          obtain ⟨τ, hz⟩ := sv_res_ok (t := 1) (z := x.toInt * y.toInt) (v := .int (x * y)) hS hs h' (by rw [sv_ev_sc p1, ← e1]) rfl (by decide) (sv_r1 _).1 (sv_r1 _).2 (fun h1 h2 => by show (x * y).toInt = _; rw [Int32.toInt_mul, sv_bm32 h1 h2])
          exact ⟨τ, _, hz, fun k => lv_imul hx hb hd k⟩
        · obtain ⟨S', h', rfl⟩ := sv_pc_ok h
          simp only [Option.some.injEq] at h'
          subst h'
          refine sv_cnt hPx (hk _ List.mem_cons_self) (fun κ H locs cells slots ρ ls st hS => ?_)
          have hs0 := hS.2.2.1
          rw [hst] at hs0
          obtain ⟨v1, vs1, rfl, q1, hs1⟩ := sv_StOk_cons hs0
          obtain ⟨v2, vs2, rfl, q2, hs⟩ := sv_StOk_cons hs1
          obtain ⟨y, rfl, p1⟩ := sv_VOk1 q1
          obtain ⟨x, rfl, p2⟩ := sv_VOk1 q2
          refine ⟨[(x * y).toInt], _, sv_mulv_ok (t := 1) (v := .int (x * y)) hS hs p2 p1 rfl (by decide) (sv_r1 _).1 (sv_r1 _).2 (fun h1 h2 => by show (x * y).toInt = _; rw [Int32.toInt_mul, sv_bm32 h1 h2]) (by decide), fun k => lv_imul hx hb hd k⟩
    · simp at h
  · split at h
    · rename_i b a rest hst
      split at h
      · rename_i k hc
        obtain ⟨S', w2, h', rfl⟩ := sv_pr_ok h
        refine sv_cnt hPx (hk _ List.mem_cons_self) (fun κ H locs cells slots ρ ls st hS => ?_)
        have hs0 := hS.2.2.1
        rw [hst] at hs0
        obtain ⟨v1, vs1, rfl, q1, hs1⟩ := sv_StOk_cons hs0
        obtain ⟨v2, vs2, rfl, q2, hs⟩ := sv_StOk_cons hs1
        obtain ⟨y, rfl, p1⟩ := sv_VOk2 q1
        obtain ⟨x, rfl, p2⟩ := sv_VOk2 q2
        have e1 := sv_cst_ok hS.1 p1 hc
        obtain ⟨τ, hz⟩ := sv_res_ok (t := 2) (z := x.toInt * y.toInt) (v := .long (x * y)) hS hs h' (by rw [sv_ev_sc p2, ← e1, Int.mul_comm]) rfl (by decide) (sv_r2 _).1 (sv_r2 _).2 (fun h1 h2 => by show (x * y).toInt = _; rw [Int64.toInt_mul, sv_bm64 h1 h2])
        exact ⟨τ, _, hz, fun k => lv_lmul hx hb hd k⟩
      · split at h
        · rename_i k hc
          obtain ⟨S', w2, h', rfl⟩ := sv_pr_ok h
          refine sv_cnt hPx (hk _ List.mem_cons_self) (fun κ H locs cells slots ρ ls st hS => ?_)
          have hs0 := hS.2.2.1
          rw [hst] at hs0
          obtain ⟨v1, vs1, rfl, q1, hs1⟩ := sv_StOk_cons hs0
          obtain ⟨v2, vs2, rfl, q2, hs⟩ := sv_StOk_cons hs1
          obtain ⟨y, rfl, p1⟩ := sv_VOk2 q1
          obtain ⟨x, rfl, p2⟩ := sv_VOk2 q2
          have e1 := sv_cst_ok hS.1 p2 hc
          obtain ⟨τ, hz⟩ := sv_res_ok (t := 2) (z := x.toInt * y.toInt) (v := .long (x * y)) hS hs h' (by rw [sv_ev_sc p1, ← e1]) rfl (by decide) (sv_r2 _).1 (sv_r2 _).2 (fun h1 h2 => by show (x * y).toInt = _; rw [Int64.toInt_mul, sv_bm64 h1 h2])
          exact ⟨τ, _, hz, fun k => lv_lmul hx hb hd k⟩
        · obtain ⟨S', h', rfl⟩ := sv_pc_ok h
          simp only [Option.some.injEq] at h'
          subst h'
          refine sv_cnt hPx (hk _ List.mem_cons_self) (fun κ H locs cells slots ρ ls st hS => ?_)
          have hs0 := hS.2.2.1
          rw [hst] at hs0
          obtain ⟨v1, vs1, rfl, q1, hs1⟩ := sv_StOk_cons hs0
          obtain ⟨v2, vs2, rfl, q2, hs⟩ := sv_StOk_cons hs1
          obtain ⟨y, rfl, p1⟩ := sv_VOk2 q1
          obtain ⟨x, rfl, p2⟩ := sv_VOk2 q2
          refine ⟨[(x * y).toInt], _, sv_mulv_ok (t := 2) (v := .long (x * y)) hS hs p2 p1 rfl (by decide) (sv_r2 _).1 (sv_r2 _).2 (fun h1 h2 => by show (x * y).toInt = _; rw [Int64.toInt_mul, sv_bm64 h1 h2]) (by decide), fun k => lv_lmul hx hb hd k⟩
    · simp at h
  · split at h
    · rename_i b a rest hst
      split at h
      · rename_i k hc
        cases hq : sv_le 1 k with
        | false => simp only [hq, cond_false] at h; cases h
        | true =>
        simp only [hq, cond_true] at h
        have hq := (sv_le_iff _ _).mp hq
        obtain ⟨S', h', rfl⟩ := sv_pc_ok h
        refine sv_cnt hPx (hk _ List.mem_cons_self) (fun κ H locs cells slots ρ ls st hS => ?_)
        have hs0 := hS.2.2.1
        rw [hst] at hs0
        obtain ⟨v1, vs1, rfl, q1, hs1⟩ := sv_StOk_cons hs0
        obtain ⟨v2, vs2, rfl, q2, hs⟩ := sv_StOk_cons hs1
        obtain ⟨y, rfl, p1⟩ := sv_VOk1 q1
        obtain ⟨x, rfl, p2⟩ := sv_VOk1 q2
        have e1 := sv_cst_ok hS.1 p1 hc
        have e2 : (x / y).toInt = x.toInt.tdiv k := by
          rw [← e1]
          exact Int32.toInt_div_of_ne_right x y (sv_nm32 (by omega))
        exact ⟨[(x / y).toInt], _, sv_divk_ok (t := 1) (v := .int (x / y)) hS hs h' hq p2 rfl (by decide) e2 (sv_r1 _).1 (sv_r1 _).2, fun k => lv_idiv hx hb hd (sv_n032 (by omega)) k⟩
      · split at h
        · rename_i k hl
          cases hq : sv_le 1 k with
          | false => simp only [hq, cond_false] at h; cases h
          | true =>
          simp only [hq, cond_true] at h
          have hq := (sv_le_iff _ _).mp hq
          obtain ⟨S', h', rfl⟩ := sv_pc_ok h
          simp only [Option.some.injEq] at h'
          subst h'
          refine sv_cnt hPx (hk _ List.mem_cons_self) (fun κ H locs cells slots ρ ls st hS => ?_)
          have hs0 := hS.2.2.1
          rw [hst] at hs0
          obtain ⟨v1, vs1, rfl, q1, hs1⟩ := sv_StOk_cons hs0
          obtain ⟨v2, vs2, rfl, q2, hs⟩ := sv_StOk_cons hs1
          obtain ⟨y, rfl, p1⟩ := sv_VOk1 q1
          obtain ⟨x, rfl, p2⟩ := sv_VOk1 q2
          have e1 := sv_lb_ok hS.1 p1 hl
          exact ⟨[(x / y).toInt], _, sv_fresh_ok (t := 1) (v := .int (x / y)) hS hs rfl (by decide) (sv_r1 _).1 (sv_r1 _).2, fun k => lv_idiv hx hb hd (sv_n032 (by omega)) k⟩
        · simp at h
    · simp at h
  · split at h
    · rename_i b a rest hst
      split at h
      · rename_i k hc
        cases hq : sv_le 1 k with
        | false => simp only [hq, cond_false] at h; cases h
        | true =>
        simp only [hq, cond_true] at h
        have hq := (sv_le_iff _ _).mp hq
        obtain ⟨S', h', rfl⟩ := sv_pc_ok h
        refine sv_cnt hPx (hk _ List.mem_cons_self) (fun κ H locs cells slots ρ ls st hS => ?_)
        have hs0 := hS.2.2.1
        rw [hst] at hs0
        obtain ⟨v1, vs1, rfl, q1, hs1⟩ := sv_StOk_cons hs0
        obtain ⟨v2, vs2, rfl, q2, hs⟩ := sv_StOk_cons hs1
        obtain ⟨y, rfl, p1⟩ := sv_VOk2 q1
        obtain ⟨x, rfl, p2⟩ := sv_VOk2 q2
        have e1 := sv_cst_ok hS.1 p1 hc
        have e2 : (x / y).toInt = x.toInt.tdiv k := by
          rw [← e1]
          exact Int64.toInt_div_of_ne_right x y (sv_nm64 (by omega))
        exact ⟨[(x / y).toInt], _, sv_divk_ok (t := 2) (v := .long (x / y)) hS hs h' hq p2 rfl (by decide) e2 (sv_r2 _).1 (sv_r2 _).2, fun k => lv_ldiv hx hb hd (sv_n064 (by omega)) k⟩
      · simp at h
    · simp at h
  · split at h
    · rename_i b a rest hst
      split at h
      · rename_i k hc
        cases hq : sv_le 1 k with
        | false => simp only [hq, cond_false] at h; cases h
        | true =>
        simp only [hq, cond_true] at h
        have hq := (sv_le_iff _ _).mp hq
        obtain ⟨S', h', rfl⟩ := sv_pc_ok h
        refine sv_cnt hPx (hk _ List.mem_cons_self) (fun κ H locs cells slots ρ ls st hS => ?_)
        have hs0 := hS.2.2.1
        rw [hst] at hs0
        obtain ⟨v1, vs1, rfl, q1, hs1⟩ := sv_StOk_cons hs0
        obtain ⟨v2, vs2, rfl, q2, hs⟩ := sv_StOk_cons hs1
        obtain ⟨y, rfl, p1⟩ := sv_VOk1 q1
        obtain ⟨x, rfl, p2⟩ := sv_VOk1 q2
        have e1 := sv_cst_ok hS.1 p1 hc
        have e2 : (x - x / y * y).toInt = x.toInt.tmod k := by
          rw [← e1]
          exact sv_rem32 x y (by omega)
        obtain ⟨τ, hz⟩ := sv_remk_ok (t := 1) (v := .int (x - x / y * y)) hS hs h' hq p2 rfl (by decide) e2
        exact ⟨τ, _, hz, fun k => lv_irem hx hb hd (sv_n032 (by omega)) k⟩
      · split at h
        · rename_i k hl
          cases hq : sv_le 1 k with
          | false => simp only [hq, cond_false] at h; cases h
          | true =>
          simp only [hq, cond_true] at h
          have hq := (sv_le_iff _ _).mp hq
          obtain ⟨S', h', rfl⟩ := sv_pc_ok h
          simp only [Option.some.injEq] at h'
          subst h'
          refine sv_cnt hPx (hk _ List.mem_cons_self) (fun κ H locs cells slots ρ ls st hS => ?_)
          have hs0 := hS.2.2.1
          rw [hst] at hs0
          obtain ⟨v1, vs1, rfl, q1, hs1⟩ := sv_StOk_cons hs0
          obtain ⟨v2, vs2, rfl, q2, hs⟩ := sv_StOk_cons hs1
          obtain ⟨y, rfl, p1⟩ := sv_VOk1 q1
          obtain ⟨x, rfl, p2⟩ := sv_VOk1 q2
          have e1 := sv_lb_ok hS.1 p1 hl
          exact ⟨[(x - x / y * y).toInt], _, sv_fresh_ok (t := 1) (v := .int (x - x / y * y)) hS hs rfl (by decide) (sv_r1 _).1 (sv_r1 _).2, fun k => lv_irem hx hb hd (sv_n032 (by omega)) k⟩
        · simp at h
    · simp at h
  · split at h
    · rename_i b a rest hst
      obtain ⟨S', w2, h', rfl⟩ := sv_pr_ok h
      refine sv_cnt hPx (hk _ List.mem_cons_self) (fun κ H locs cells slots ρ ls st hS => ?_)
      have hs0 := hS.2.2.1
      rw [hst] at hs0
      obtain ⟨v1, vs1, rfl, q1, hs1⟩ := sv_StOk_cons hs0
      obtain ⟨v2, vs2, rfl, q2, hs⟩ := sv_StOk_cons hs1
      obtain ⟨y, rfl, p1⟩ := sv_VOk1 q1
      obtain ⟨x, rfl, p2⟩ := sv_VOk1 q2
      obtain ⟨τ, hz⟩ := sv_and_ok (t := 1) (v := .int (x &&& y)) (x := x.toBitVec) (y := y.toBitVec) hS hs h' p2 p1 rfl (by decide) rfl rfl (sv_r1 _).1 (sv_r1 _).2
      exact ⟨τ, _, hz, fun k => lv_iand hx hb hd k⟩
    · simp at h
  · split at h
    · rename_i b a rest hst
      obtain ⟨S', w2, h', rfl⟩ := sv_pr_ok h
      refine sv_cnt hPx (hk _ List.mem_cons_self) (fun κ H locs cells slots ρ ls st hS => ?_)
      have hs0 := hS.2.2.1
      rw [hst] at hs0
      obtain ⟨v1, vs1, rfl, q1, hs1⟩ := sv_StOk_cons hs0
      obtain ⟨v2, vs2, rfl, q2, hs⟩ := sv_StOk_cons hs1
      obtain ⟨y, rfl, p1⟩ := sv_VOk2 q1
      obtain ⟨x, rfl, p2⟩ := sv_VOk2 q2
      obtain ⟨τ, hz⟩ := sv_and_ok (t := 2) (v := .long (x &&& y)) (x := x.toBitVec) (y := y.toBitVec) hS hs h' p2 p1 rfl (by decide) rfl rfl (sv_r2 _).1 (sv_r2 _).2
      exact ⟨τ, _, hz, fun k => lv_land hx hb hd k⟩
    · simp at h
  · split at h
    · rename_i b a rest hst
      obtain ⟨S', w2, h', rfl⟩ := sv_pr_ok h
      refine sv_cnt hPx (hk _ List.mem_cons_self) (fun κ H locs cells slots ρ ls st hS => ?_)
      have hs0 := hS.2.2.1
      rw [hst] at hs0
      obtain ⟨v1, vs1, rfl, q1, hs1⟩ := sv_StOk_cons hs0
      obtain ⟨v2, vs2, rfl, q2, hs⟩ := sv_StOk_cons hs1
      obtain ⟨y, rfl, p1⟩ := sv_VOk1 q1
      obtain ⟨x, rfl, p2⟩ := sv_VOk1 q2
      obtain ⟨τ, hz⟩ := sv_or2_ok (t := 1) (v := .int (x ||| y)) (x := x.toBitVec) (y := y.toBitVec) hS hs h' p2 p1 rfl (by decide) rfl (Or.inl ⟨rfl, rfl⟩) (sv_r1 _).1 (sv_r1 _).2 (by decide)
      exact ⟨τ, _, hz, fun k => lv_ior hx hb hd k⟩
    · simp at h
  · split at h
    · rename_i b a rest hst
      obtain ⟨S', w2, h', rfl⟩ := sv_pr_ok h
      refine sv_cnt hPx (hk _ List.mem_cons_self) (fun κ H locs cells slots ρ ls st hS => ?_)
      have hs0 := hS.2.2.1
      rw [hst] at hs0
      obtain ⟨v1, vs1, rfl, q1, hs1⟩ := sv_StOk_cons hs0
      obtain ⟨v2, vs2, rfl, q2, hs⟩ := sv_StOk_cons hs1
      obtain ⟨y, rfl, p1⟩ := sv_VOk2 q1
      obtain ⟨x, rfl, p2⟩ := sv_VOk2 q2
      obtain ⟨τ, hz⟩ := sv_or2_ok (t := 2) (v := .long (x ||| y)) (x := x.toBitVec) (y := y.toBitVec) hS hs h' p2 p1 rfl (by decide) rfl (Or.inl ⟨rfl, rfl⟩) (sv_r2 _).1 (sv_r2 _).2 (by decide)
      exact ⟨τ, _, hz, fun k => lv_lor hx hb hd k⟩
    · simp at h
  · split at h
    · rename_i b a rest hst
      obtain ⟨S', w2, h', rfl⟩ := sv_pr_ok h
      refine sv_cnt hPx (hk _ List.mem_cons_self) (fun κ H locs cells slots ρ ls st hS => ?_)
      have hs0 := hS.2.2.1
      rw [hst] at hs0
      obtain ⟨v1, vs1, rfl, q1, hs1⟩ := sv_StOk_cons hs0
      obtain ⟨v2, vs2, rfl, q2, hs⟩ := sv_StOk_cons hs1
      obtain ⟨y, rfl, p1⟩ := sv_VOk1 q1
      obtain ⟨x, rfl, p2⟩ := sv_VOk1 q2
      obtain ⟨τ, hz⟩ := sv_or_ok (t := 1) (v := .int (x ^^^ y)) (x := x.toBitVec) (y := y.toBitVec) hS hs h' p2 p1 rfl (by decide) rfl (Or.inr ⟨rfl, rfl⟩) (sv_r1 _).1 (sv_r1 _).2 (by decide)
      exact ⟨τ, _, hz, fun k => lv_ixor hx hb hd k⟩
    · simp at h
  · split at h
    · rename_i b a rest hst
      obtain ⟨S', w2, h', rfl⟩ := sv_pr_ok h
      refine sv_cnt hPx (hk _ List.mem_cons_self) (fun κ H locs cells slots ρ ls st hS => ?_)
      have hs0 := hS.2.2.1
      rw [hst] at hs0
      obtain ⟨v1, vs1, rfl, q1, hs1⟩ := sv_StOk_cons hs0
      obtain ⟨v2, vs2, rfl, q2, hs⟩ := sv_StOk_cons hs1
      obtain ⟨y, rfl, p1⟩ := sv_VOk2 q1
      obtain ⟨x, rfl, p2⟩ := sv_VOk2 q2
      obtain ⟨τ, hz⟩ := sv_or_ok (t := 2) (v := .long (x ^^^ y)) (x := x.toBitVec) (y := y.toBitVec) hS hs h' p2 p1 rfl (by decide) rfl (Or.inr ⟨rfl, rfl⟩) (sv_r2 _).1 (sv_r2 _).2 (by decide)
      exact ⟨τ, _, hz, fun k => lv_lxor hx hb hd k⟩
    · simp at h
  · split at h
    · rename_i b a rest hst
      split at h
      · rename_i k hc
        obtain ⟨S', w2, h', rfl⟩ := sv_pr_ok h
        refine sv_cnt hPx (hk _ List.mem_cons_self) (fun κ H locs cells slots ρ ls st hS => ?_)
        have hs0 := hS.2.2.1
        rw [hst] at hs0
        obtain ⟨v1, vs1, rfl, q1, hs1⟩ := sv_StOk_cons hs0
        obtain ⟨v2, vs2, rfl, q2, hs⟩ := sv_StOk_cons hs1
        obtain ⟨y, rfl, p1⟩ := sv_VOk1 q1
        obtain ⟨x, rfl, p2⟩ := sv_VOk1 q2
        obtain ⟨e1, e2⟩ := sv_sel_ok hS.1 p1 hc
        obtain ⟨τ, hz⟩ := sv_res_ok (t := 1) (z := x.toInt * ((2 ^ k : Nat) : Int)) (v := .int (x <<< (y &&& 31))) hS hs h' (by rw [sv_ev_sc p2, Int.mul_comm]; rfl) rfl (by decide) (sv_r1 _).1 (sv_r1 _).2 (fun h1 h2 => by show (x <<< (y &&& 31)).toInt = _; rw [sv_shl32 x y e2 e1, sv_bm32 h1 h2])
        exact ⟨τ, _, hz, fun k => lv_ishl hx hb hd k⟩
      · obtain ⟨S', h', rfl⟩ := sv_pc_ok h
        simp only [Option.some.injEq] at h'
        subst h'
        refine sv_cnt hPx (hk _ List.mem_cons_self) (fun κ H locs cells slots ρ ls st hS => ?_)
        have hs0 := hS.2.2.1
        rw [hst] at hs0
        obtain ⟨v1, vs1, rfl, q1, hs1⟩ := sv_StOk_cons hs0
        obtain ⟨v2, vs2, rfl, q2, hs⟩ := sv_StOk_cons hs1
        obtain ⟨y, rfl, p1⟩ := sv_VOk1 q1
        obtain ⟨x, rfl, p2⟩ := sv_VOk1 q2
        exact ⟨[(x <<< (y &&& 31)).toInt], _, sv_fresh_ok (t := 1) (v := .int (x <<< (y &&& 31))) hS hs rfl (by decide) (sv_r1 _).1 (sv_r1 _).2, fun k => lv_ishl hx hb hd k⟩
    · simp at h
  · split at h
    · rename_i z1 z2 rest hst
      obtain ⟨S', h', rfl⟩ := sv_pc_ok h
      simp only [Option.some.injEq] at h'
      subst h'
      refine sv_cnt hPx (hk _ List.mem_cons_self) (fun κ H locs cells slots ρ ls st hS => ?_)
      have hs0 := hS.2.2.1
      rw [hst] at hs0
      obtain ⟨v1, vs1, rfl, q1, hs1⟩ := sv_StOk_cons hs0
      obtain ⟨v2, vs2, rfl, q2, hs⟩ := sv_StOk_cons hs1
      obtain ⟨y, rfl, p1⟩ := sv_VOk1 q1
      obtain ⟨x, rfl, p2⟩ := sv_VOk2 q2
      exact ⟨[(x <<< (y.toInt64 &&& 63)).toInt], _, sv_fresh_ok (t := 2) (v := .long (x <<< (y.toInt64 &&& 63))) hS hs rfl (by decide) (sv_r2 _).1 (sv_r2 _).2, fun k => lv_lshl hx hb hd rfl k⟩
    · simp at h
  · split at h
    · rename_i b a rest hst
      split at h
      · rename_i k hc
        obtain ⟨S', h', rfl⟩ := sv_pc_ok h
        refine sv_cnt hPx (hk _ List.mem_cons_self) (fun κ H locs cells slots ρ ls st hS => ?_)
        have hs0 := hS.2.2.1
        rw [hst] at hs0
        obtain ⟨v1, vs1, rfl, q1, hs1⟩ := sv_StOk_cons hs0
        obtain ⟨v2, vs2, rfl, q2, hs⟩ := sv_StOk_cons hs1
        obtain ⟨y, rfl, p1⟩ := sv_VOk1 q1
        obtain ⟨x, rfl, p2⟩ := sv_VOk1 q2
        obtain ⟨e1, e2⟩ := sv_sel_ok hS.1 p1 hc
        exact ⟨[(x >>> (y &&& 31)).toInt], _, sv_shrk_ok (t := 1) (v := .int (x >>> (y &&& 31))) hS hs h' p2 rfl (by decide) (sv_shr32 x y e2 e1), fun k => lv_ishr hx hb hd k⟩
      · obtain ⟨S', h', rfl⟩ := sv_pc_ok h
        simp only [Option.some.injEq] at h'
        subst h'
        refine sv_cnt hPx (hk _ List.mem_cons_self) (fun κ H locs cells slots ρ ls st hS => ?_)
        have hs0 := hS.2.2.1
        rw [hst] at hs0
        obtain ⟨v1, vs1, rfl, q1, hs1⟩ := sv_StOk_cons hs0
        obtain ⟨v2, vs2, rfl, q2, hs⟩ := sv_StOk_cons hs1
        obtain ⟨y, rfl, p1⟩ := sv_VOk1 q1
        obtain ⟨x, rfl, p2⟩ := sv_VOk1 q2
        exact ⟨[(x >>> (y &&& 31)).toInt], _, sv_fresh_ok (t := 1) (v := .int (x >>> (y &&& 31))) hS hs rfl (by decide) (sv_r1 _).1 (sv_r1 _).2, fun k => lv_ishr hx hb hd k⟩
    · simp at h
  · split at h
    · rename_i b a rest hst
      split at h
      · rename_i k hc
        obtain ⟨S', h', rfl⟩ := sv_pc_ok h
        refine sv_cnt hPx (hk _ List.mem_cons_self) (fun κ H locs cells slots ρ ls st hS => ?_)
        have hs0 := hS.2.2.1
        rw [hst] at hs0
        obtain ⟨v1, vs1, rfl, q1, hs1⟩ := sv_StOk_cons hs0
        obtain ⟨v2, vs2, rfl, q2, hs⟩ := sv_StOk_cons hs1
        obtain ⟨y, rfl, p1⟩ := sv_VOk1 q1
        obtain ⟨x, rfl, p2⟩ := sv_VOk2 q2
        obtain ⟨e1, e2⟩ := sv_sel_ok hS.1 p1 hc
        exact ⟨[(x >>> (y.toInt64 &&& 63)).toInt], _, sv_shrk_ok (t := 2) (v := .long (x >>> (y.toInt64 &&& 63))) hS hs h' p2 rfl (by decide) (sv_shr64 x y e2 e1), fun k => lv_lshr hx hb hd rfl k⟩
      · obtain ⟨S', h', rfl⟩ := sv_pc_ok h
        simp only [Option.some.injEq] at h'
        subst h'
        refine sv_cnt hPx (hk _ List.mem_cons_self) (fun κ H locs cells slots ρ ls st hS => ?_)
        have hs0 := hS.2.2.1
        rw [hst] at hs0
        obtain ⟨v1, vs1, rfl, q1, hs1⟩ := sv_StOk_cons hs0
        obtain ⟨v2, vs2, rfl, q2, hs⟩ := sv_StOk_cons hs1
        obtain ⟨y, rfl, p1⟩ := sv_VOk1 q1
        obtain ⟨x, rfl, p2⟩ := sv_VOk2 q2
        exact ⟨[(x >>> (y.toInt64 &&& 63)).toInt], _, sv_fresh_ok (t := 2) (v := .long (x >>> (y.toInt64 &&& 63))) hS hs rfl (by decide) (sv_r2 _).1 (sv_r2 _).2, fun k => lv_lshr hx hb hd rfl k⟩
    · simp at h
  · split at h
    · rename_i b a rest hst
      split at h
      · rename_i k hc
        split at h
        · rename_i lo hl
          cases hq : sv_ge0 lo with
          | true =>
            simp only [hq, cond_true] at h
            obtain ⟨S', h', rfl⟩ := sv_pc_ok h
            refine sv_cnt hPx (hk _ List.mem_cons_self) (fun κ H locs cells slots ρ ls st hS => ?_)
            have hs0 := hS.2.2.1
            rw [hst] at hs0
            obtain ⟨v1, vs1, rfl, q1, hs1⟩ := sv_StOk_cons hs0
            obtain ⟨v2, vs2, rfl, q2, hs⟩ := sv_StOk_cons hs1
            obtain ⟨y, rfl, p1⟩ := sv_VOk1 q1
            obtain ⟨x, rfl, p2⟩ := sv_VOk1 q2
            obtain ⟨e1, e2⟩ := sv_sel_ok hS.1 p1 hc
            have e3 := sv_lb_ok hS.1 p2 hl
            have e4 := (sv_ge0_iff lo).mp hq
            exact ⟨[((x.toUInt32 >>> (y.toUInt32 &&& Int32.toUInt32 31)).toInt32).toInt], _, sv_shrk_ok (t := 1) (v := .int ((x.toUInt32 >>> (y.toUInt32 &&& Int32.toUInt32 31)).toInt32)) hS hs h' p2 rfl (by decide) (sv_ush32 x y e2 e1 (by omega)), fun k => lv_iushr hx hb hd rfl k⟩
          | false =>
            simp only [hq, cond_false] at h
            cases h0 : Nat.beq k 0 with
            | true => simp only [h0, cond_true] at h; cases h
            | false =>
            simp only [h0, cond_false] at h
            obtain ⟨S', h', rfl⟩ := sv_pc_ok h
            simp only [Option.some.injEq] at h'
            subst h'
            refine sv_cnt hPx (hk _ List.mem_cons_self) (fun κ H locs cells slots ρ ls st hS => ?_)
            have hs0 := hS.2.2.1
            rw [hst] at hs0
            obtain ⟨v1, vs1, rfl, q1, hs1⟩ := sv_StOk_cons hs0
            obtain ⟨v2, vs2, rfl, q2, hs⟩ := sv_StOk_cons hs1
            obtain ⟨y, rfl, p1⟩ := sv_VOk1 q1
            obtain ⟨x, rfl, p2⟩ := sv_VOk1 q2
            obtain ⟨e1, e2⟩ := sv_sel_ok hS.1 p1 hc
            have e5 : 0 < k := by
              cases k with
              | zero => exact absurd h0 (by decide)
              | succ k => omega
            obtain ⟨e3, e4⟩ := sv_ush32b x y e2 e5 e1
            have e6 := Nat.two_pow_pos (32 - k)
            refine ⟨[((x.toUInt32 >>> (y.toUInt32 &&& Int32.toUInt32 31)).toInt32).toInt], _, sv_fresh_ok (t := 1) (v := .int ((x.toUInt32 >>> (y.toUInt32 &&& Int32.toUInt32 31)).toInt32)) hS hs rfl (by decide) e3 ?_, fun k => lv_iushr hx hb hd rfl k⟩
            show ((x.toUInt32 >>> (y.toUInt32 &&& Int32.toUInt32 31)).toInt32).toInt ≤ ((2 ^ (32 - k) - 1 : Nat) : Int)
            omega
        · simp at h
      · obtain ⟨S', h', rfl⟩ := sv_pc_ok h
        simp only [Option.some.injEq] at h'
        subst h'
        refine sv_cnt hPx (hk _ List.mem_cons_self) (fun κ H locs cells slots ρ ls st hS => ?_)
        have hs0 := hS.2.2.1
        rw [hst] at hs0
        obtain ⟨v1, vs1, rfl, q1, hs1⟩ := sv_StOk_cons hs0
        obtain ⟨v2, vs2, rfl, q2, hs⟩ := sv_StOk_cons hs1
        obtain ⟨y, rfl, p1⟩ := sv_VOk1 q1
        obtain ⟨x, rfl, p2⟩ := sv_VOk1 q2
        exact ⟨[((x.toUInt32 >>> (y.toUInt32 &&& Int32.toUInt32 31)).toInt32).toInt], _, sv_fresh_ok (t := 1) (v := .int ((x.toUInt32 >>> (y.toUInt32 &&& Int32.toUInt32 31)).toInt32)) hS hs rfl (by decide) (sv_r1 _).1 (sv_r1 _).2, fun k => lv_iushr hx hb hd rfl k⟩
    · simp at h
  · split at h
    · rename_i z1 z2 rest hst
      obtain ⟨S', h', rfl⟩ := sv_pc_ok h
      simp only [Option.some.injEq] at h'
      subst h'
      refine sv_cnt hPx (hk _ List.mem_cons_self) (fun κ H locs cells slots ρ ls st hS => ?_)
      have hs0 := hS.2.2.1
      rw [hst] at hs0
      obtain ⟨v1, vs1, rfl, q1, hs1⟩ := sv_StOk_cons hs0
      obtain ⟨v2, vs2, rfl, q2, hs⟩ := sv_StOk_cons hs1
      obtain ⟨y, rfl, p1⟩ := sv_VOk1 q1
      obtain ⟨x, rfl, p2⟩ := sv_VOk2 q2
      exact ⟨[((x.toUInt64 >>> (y.toInt64.toUInt64 &&& Int64.toUInt64 63)).toInt64).toInt], _, sv_fresh_ok (t := 2) (v := .long ((x.toUInt64 >>> (y.toInt64.toUInt64 &&& Int64.toUInt64 63)).toInt64)) hS hs rfl (by decide) (sv_r2 _).1 (sv_r2 _).2, fun k => lv_lushr hx hb hd rfl k⟩
    · simp at h
  · split at h
    · rename_i a rest hst
      obtain ⟨S', h', rfl⟩ := sv_pc_ok h
      simp only [Option.some.injEq] at h'
      subst h'
      refine sv_cnt hPx (hk _ List.mem_cons_self) (fun κ H locs cells slots ρ ls st hS => ?_)
      have hs0 := hS.2.2.1
      rw [hst] at hs0
      obtain ⟨v1, vs1, rfl, q1, hs⟩ := sv_StOk_cons hs0
      obtain ⟨x, rfl, p1⟩ := sv_VOk1 q1
      exact ⟨[], _, by rw [List.append_nil]; exact sv_stk_ok hS hs (sv_mkV2 (by rw [Int32.toInt_toInt64]; exact p1)), fun k => lv_i2l hx hb hd rfl k⟩
    · simp at h
  · split at h
    · rename_i a rest hst
      obtain ⟨S', w2, h', rfl⟩ := sv_pr_ok h
      refine sv_cnt hPx (hk _ List.mem_cons_self) (fun κ H locs cells slots ρ ls st hS => ?_)
      have hs0 := hS.2.2.1
      rw [hst] at hs0
      obtain ⟨v1, vs1, rfl, q1, hs⟩ := sv_StOk_cons hs0
      obtain ⟨x, rfl, p1⟩ := sv_VOk2 q1
      obtain ⟨τ, hz⟩ := sv_res_ok (t := 1) (v := .int x.toInt32) hS hs h' p1 rfl (by decide) (sv_r1 _).1 (sv_r1 _).2 (fun h1 h2 => by show x.toInt32.toInt = _; rw [Int64.toInt_toInt32, sv_bm32 h1 h2])
      exact ⟨τ, _, hz, fun k => lv_l2i hx hb hd rfl k⟩
    · simp at h
  · split at h
    · rename_i a rest hst
      cases hq : sv_in S.1 a (-128) 127 with
      | true =>
        simp only [hq, cond_true] at h
        obtain ⟨S', h', rfl⟩ := sv_pc_ok h
        simp only [Option.some.injEq] at h'
        subst h'
        refine sv_cnt hPx (hk _ List.mem_cons_self) (fun κ H locs cells slots ρ ls st hS => ?_)
        have hs0 := hS.2.2.1
        rw [hst] at hs0
        obtain ⟨v1, vs1, rfl, q1, hs⟩ := sv_StOk_cons hs0
        obtain ⟨x, rfl, p1⟩ := sv_VOk1 q1
        obtain ⟨e1, e2⟩ := sv_in_ok hS.1 p1 hq
        exact ⟨[], _, by rw [List.append_nil]; exact sv_stk_ok hS hs (sv_mkV1 (x := x.toInt8.toInt32) (by rw [Int8.toInt_toInt32, Int32.toInt_toInt8, Int.bmod_eq_of_le_mul_two (by omega) (by omega)]; exact p1)), fun k => lv_i2b hx hb hd rfl k⟩
      | false =>
        simp only [hq, cond_false] at h
        obtain ⟨S', h', rfl⟩ := sv_pc_ok h
        simp only [Option.some.injEq] at h'
        subst h'
        refine sv_cnt hPx (hk _ List.mem_cons_self) (fun κ H locs cells slots ρ ls st hS => ?_)
        have hs0 := hS.2.2.1
        rw [hst] at hs0
        obtain ⟨v1, vs1, rfl, q1, hs⟩ := sv_StOk_cons hs0
        obtain ⟨x, rfl, p1⟩ := sv_VOk1 q1
        have e1 := Int8.le_toInt x.toInt8
        have e2 := Int8.toInt_lt x.toInt8
        exact ⟨[x.toInt8.toInt32.toInt], _, sv_fresh_ok (t := 1) (v := .int x.toInt8.toInt32) hS hs rfl (by decide) (by show -128 ≤ x.toInt8.toInt32.toInt; rw [Int8.toInt_toInt32]; omega) (by show x.toInt8.toInt32.toInt ≤ 127; rw [Int8.toInt_toInt32]; omega), fun k => lv_i2b hx hb hd rfl k⟩
    · simp at h
  · simp at h
end SVC
