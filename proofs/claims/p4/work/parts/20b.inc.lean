-- ===== iinc =====
def sv_inc (nL : Nat) (S : SvS) (j : Nat) (k : Int) (pc : Nat) (w : List Nat) : Option (List (SvS × Nat) × List Nat) := match sv_get S.2.1 j with
  | some a => bif Nat.beq a.1 1 && Nat.blt j nL && sv_le (-32768) k && sv_le k 32767 then (match sv_res 1 S S.2.2.1 (sv_addc a.2 k) w with
    | some (S', w') => (match S'.2.2.1 with
      | b :: r => some ([((S'.1, (j, b) :: sv_fl j false S'.2.1, r, S'.2.2.2), pc + 3)], w')
      | [] => none)
    | none => none) else none
  | none => none
def sv_Z (nL : Nat) (S : SvS) (pc : Nat) (i : Instr) (n : Nat) (w : List Nat) : Option (List (SvS × Nat) × List Nat) := match i with
  | .iinc j k => bif Nat.beq n 3 then sv_inc nL S j k pc w else none
  | _ => none
section SVINC
variable {p : Program} {l : Launch} {e : Env} {R : Room} {s : State} {m : MethodId} {args : Array Value} {below : List Frame} {meth : Method} {c : Code} {Q : State → Prop}
variable {P : Nat → List Nat → List Int → (Nat → Nat) → Heap → Prop} {D : va_G} {AC : Nat → ClassId} {kd : List SvK} {B0 : Nat} {κ0 : Nat → Nat} {mF mA : List Nat} {Px : List Int → Prop} {nL : Nat} {cc : ByteArray} {pc n : Nat} {w w' : List Nat} {S : SvS} {r : List (SvS × Nat)}
theorem sv_Z_ok (hPx : ∀ ρ τ, Px ρ → Px (ρ ++ τ)) (hx : p.tables.exec = Jvm.exec) (hb : c.code = cc) {i : Instr} (hd : decode cc pc = .ok (i, n)) (h : sv_Z nL S pc i n w = some (r, w')) (hk : ∀ q ∈ r, sv_Good p l e R s m args below meth c Q P D AC kd B0 κ0 mF mA Px nL q.1 q.2) : sv_Good p l e R s m args below meth c Q P D AC kd B0 κ0 mF mA Px nL S pc := by
  unfold sv_Z at h
  split at h
  · rename_i j k
    cases hn : Nat.beq n 3 with
    | false => rw [hn] at h; cases h
    | true =>
      rw [hn] at h
      simp only [cond_true] at h
      have hn := Nat.eq_of_beq_eq_true hn
      subst hn
      unfold sv_inc at h
      split at h
      · rename_i a hg
        cases hq : (Nat.beq a.1 1 && Nat.blt j nL && sv_le (-32768) k && sv_le k 32767) with
        | false => rw [hq] at h; cases h
        | true =>
          rw [hq] at h
          simp only [cond_true] at h
          simp only [Bool.and_eq_true, sv_le_iff] at hq
          obtain ⟨⟨⟨q1, q2⟩, q3⟩, q4⟩ := hq
          have q1 := Nat.eq_of_beq_eq_true q1
          have q2 := Nat.blt_eq.mp q2
          split at h
          · rename_i S' w2 hres
            split at h
            · rename_i b r0 hst
              simp only [Option.some.injEq, Prod.mk.injEq] at h
              obtain ⟨rfl, -⟩ := h
              intro κ H locs ρ ls st hI hP hS
              obtain ⟨lv, h1, h2⟩ := hS.2.1
              obtain ⟨i0, v, h3, h4⟩ := sv_get_ok h2 hg
              obtain ⟨x, rfl, -⟩ := sv_val1 (h4.1.trans q1)
              have e1 : sv_ev ρ a.2 = some x.toInt := h4.2.2
              have ek : (Int32.ofInt k).toInt = k := Int32.toInt_ofInt_of_le (by omega) (by omega)
              obtain ⟨τ, hz⟩ := sv_res_ok (t := 1) (v := .int (x + Int32.ofInt k)) hS hS.2.2.1 hres (sv_ev_addc e1) rfl (by decide) (sv_r1 _).1 (sv_r1 _).2 (fun g1 g2 => by show (x + Int32.ofInt k).toInt = _; rw [Int32.toInt_add, ek, sv_bm32 g1 g2])
              obtain ⟨z1, ⟨lv2, z2, z3⟩, z4, z5⟩ := hz
              rw [hst] at z4
              have hat : ls[j]? = some (.val (.int x)) := lv_at h1 i0 h3
              have h6 : lv_has ls nL ((j, Value.int x) :: lv2) := ⟨z2.1, z2.2.1, fun q hq => by
                rcases List.mem_cons.mp hq with rfl | hq
                · exact hat
                · exact z2.2.2 q hq⟩
              have e2 : ((j, Value.int x) :: lv2).filter (fun q => !(q.1 == j) && !(q.1 + 1 == j && q.2.category == 2)) = lv2.filter (fun q => !(q.1 == j) && !(q.1 + 1 == j && q.2.category == 2)) := by
                rw [List.filter_cons_of_neg (by simp)]
              refine lv_iinc hx hb hd h6 (k := 0) rfl rfl q2 rfl (fun ls' hls => ?_)
              rw [e2] at hls
              exact hk _ List.mem_cons_self κ H locs (ρ ++ τ) ls' st hI (hPx _ _ hP) ⟨z1, ⟨_, hls, rfl, z4.1, sv_fl1_ok z3⟩, z4.2, z5⟩
            · simp at h
          · simp at h
      · simp at h
  · simp at h
end SVINC
