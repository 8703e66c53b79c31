-- ===== the whole of a method =====
-- tables of a method: fields read, constants that are cells, ints, longs, fields written, classes made, arrays made, calls, classes of elements
abbrev SvC : Type := List (Nat × Nat × Nat) × List (Nat × Nat) × List (Nat × Int) × List (Nat × Int) × List (Nat × Nat × Nat × Nat) × List (Nat × Nat × Nat × List Nat) × List (Nat × Nat) × List (Nat × Nat × SvP) × List (Nat × Nat)
abbrev SvJ : Type := Nat × SvS × SvL
def sv_ins1 (sl : SvS → Nat → Nat → SvL → SvL → SvL → Nat → List Nat → Option (List SvF × List Nat)) (sup : Nat → List Nat × List Nat) (kd : List SvK) (tb : SvC) (nL : Nat) (cc : ByteArray) (sp : SvP) (S : SvS) (pc k : Nat) (i : Instr) (n : Nat) (w : List Nat) : Option (List (SvS × Nat) × List Nat) := match k with
  | 0 => sv_A nL S pc i n w
  | 1 => sv_B S pc i n w
  | 2 => sv_C cc S pc i n w
  | 3 => sv_R tb.1 tb.2.1 tb.2.2.1 tb.2.2.2.1 kd S pc i n w
  | 4 => sv_Ws sl sup sp.2.2.2.2.1 tb.2.2.2.2.2.2.2.2 kd S pc i n w
  | 5 => (match i with
    | .putfield idx => bif Nat.beq n 3 then sv_pf sup sp.2.2.2.1 tb.2.2.2.2.1 kd S idx pc w else none
    | _ => none)
  | 10 => sv_Z nL S pc i n w
  | 6 => sv_N sup sp.2.2.2.2.2.2.2.1 sp.2.2.2.2.2.2.2.2 tb.2.2.2.2.2.1 tb.2.2.2.2.2.2.1 kd S pc i n w
  | 7 => sv_Y sup sp.2.2.2.1 sp.2.2.2.2.1 sp.2.2.2.2.2.2.2.1 sp.2.2.2.2.2.2.2.2 tb.2.2.2.2.2.2.2.1 S pc i n w
  | _ => none
def sv_step (sl : SvS → Nat → Nat → SvL → SvL → SvL → Nat → List Nat → Option (List SvF × List Nat)) (sup : Nat → List Nat × List Nat) (rl : Nat → SvS → List Nat → Option (SvS × List Nat)) (kd : List SvK) (tb : SvC) (nL : Nat) (cc : ByteArray) (sp : SvP) (S : SvS) (pc k : Nat) (w : List Nat) : Option (List (SvS × Nat) × List Nat) :=
  bif Nat.ble 11 k then sv_K rl kd S pc (Nat.sub k 11) w else match decode cc pc with
  | .ok (i, n) => sv_ins1 sl sup kd tb nL cc sp S pc k i n w
  | _ => none
def sv_jmp (n0 : Nat) (cuts : List SvJ) (cur : Option SvL) (S : SvS) (pc : Nat) (w : List Nat) : Option (List Nat) := match w with
  | j :: w1 => (match sv_nth cuts j with
    | some (pc', T, μ) => bif Nat.beq pc' pc then (match sv_match n0 S T w1 with
      | some (σ, w2) => bif sv_wfs (sv_len S.1) σ then (match sv_su σ μ with
        | some μ' => (match sv_pos S μ' w2 with
          | some w3 => (match cur with
            | none => some w3
            | some μ0 => sv_pos S (sv_addc (sv_sub μ0 μ') (-1)) w3)
          | none => none)
        | none => none) else none
      | none => none) else none
    | none => none)
  | [] => none
def sv_retd (sup : Nat → List Nat × List Nat) (kd : List SvK) (tw : List (Nat × Nat)) (cc : ByteArray) (sp : SvP) (rt : Nat) (S : SvS) (pc : Nat) (w : List Nat) : Option (List Nat) := match decode cc pc with
  | .ok (i, n) => sv_ret sup kd tw sp rt S i n w
  | _ => none
/-- 8 a way out | 9 a cut | else a step -/
def sv_run (sl : SvS → Nat → Nat → SvL → SvL → SvL → Nat → List Nat → Option (List SvF × List Nat)) (sup : Nat → List Nat × List Nat) (rl : Nat → SvS → List Nat → Option (SvS × List Nat)) (kd : List SvK) (tw : List (Nat × Nat)) (tb : SvC) (nL : Nat) (cc : ByteArray) (sp : SvP) (rt : Nat) (cuts : List SvJ) (cur : Option SvL) : Nat → List (SvS × Nat) → List Nat → Option (List Nat)
  | 0, _, _ => none
  | _ + 1, [], w => some w
  | _ + 1, _ :: _, [] => none
  | f + 1, (S, pc) :: t, k :: w => bif Nat.beq k 8 then (match sv_retd sup kd tw cc sp rt S pc w with
      | some w1 => sv_run sl sup rl kd tw tb nL cc sp rt cuts cur f t w1
      | none => none)
    else bif Nat.beq k 9 then (match sv_jmp (sv_len sp.1) cuts cur S pc w with
      | some w1 => sv_run sl sup rl kd tw tb nL cc sp rt cuts cur f t w1
      | none => none)
    else (match sv_step sl sup rl kd tb nL cc sp S pc k w with
      | some (r, w1) => sv_run sl sup rl kd tw tb nL cc sp rt cuts cur f (sv_appb r t) w1
      | none => none)
def sv_runC (sl : SvS → Nat → Nat → SvL → SvL → SvL → Nat → List Nat → Option (List SvF × List Nat)) (sup : Nat → List Nat × List Nat) (rl : Nat → SvS → List Nat → Option (SvS × List Nat)) (kd : List SvK) (tw : List (Nat × Nat)) (tb : SvC) (nL : Nat) (cc : ByteArray) (sp : SvP) (rt : Nat) (cuts : List SvJ) (f : Nat) : List SvJ → List Nat → Option (List Nat)
  | [], w => some w
  | (pc, T, μ) :: t, w => match sv_run sl sup rl kd tw tb nL cc sp rt cuts (some μ) f [(T, pc)] w with
    | some w1 => sv_runC sl sup rl kd tw tb nL cc sp rt cuts f t w1
    | none => none
def sv_pl : Nat → List SvA → List (Nat × SvA)
  | _, [] => []
  | i, a :: as => (i, a) :: sv_pl (bif Nat.beq a.1 2 then Nat.add i 2 else Nat.add i 1) as
def sv_S0 (sp : SvP) : SvS := (sp.1, sv_pl 0 sp.2.1, [], (7, [], [sv_v 0]) :: (8, [], [sv_v 1]) :: sp.2.2.1)
def sv_check (sl : SvS → Nat → Nat → SvL → SvL → SvL → Nat → List Nat → Option (List SvF × List Nat)) (sup : Nat → List Nat × List Nat) (rl : Nat → SvS → List Nat → Option (SvS × List Nat)) (kd : List SvK) (tw : List (Nat × Nat)) (tb : SvC) (nL : Nat) (cc : ByteArray) (sp : SvP) (rt : Nat) (cuts : List SvJ) (f : Nat) (w : List Nat) : Bool :=
  Nat.ble (sv_cats sp.2.1) nL && (match sv_run sl sup rl kd tw tb nL cc sp rt cuts none f [(sv_S0 sp, 0)] w with
    | some w1 => (match sv_runC sl sup rl kd tw tb nL cc sp rt cuts f cuts w1 with
      | some _ => true
      | none => false)
    | none => false)
/-- what of a method's tables is known -/
def sv_Links (p : Program) (l : Launch) (e : Env) (R : Room) (s : State) (m : MethodId) (args : Array Value) (below : List Frame) (meth : Method) (c : Code) (P : Nat → List Nat → List Int → (Nat → Nat) → Heap → Prop) (D : va_G) (AC : Nat → ClassId) (kd : List SvK) (B0 : Nat) (κ0 : Nat → Nat) (nL : Nat) (cc : ByteArray) (cn : Nat → String) (tb : SvC) : Prop :=
  (∀ idx ci f, (idx, (ci, f)) ∈ tb.1 → sv_LkG s m args D idx ci f) ∧ (∀ idx K, (idx, K) ∈ tb.2.1 → sv_LkS s m args κ0 idx K) ∧ (∀ idx v, (idx, v) ∈ tb.2.2.1 → sv_LkI s m args idx v) ∧ (∀ idx v, (idx, v) ∈ tb.2.2.2.1 → sv_LkL s m args idx v) ∧
  (∀ idx ci f b, (idx, (ci, f, b)) ∈ tb.2.2.2.2.1 → sv_LkP s m meth args D idx ci f b) ∧ (∀ idx ci n fbs, (idx, (ci, n, fbs)) ∈ tb.2.2.2.2.2.1 → sv_LkN s m args D idx ci n fbs) ∧ (∀ idx j, (idx, j) ∈ tb.2.2.2.2.2.2.1 → sv_LkA s m args cn idx j) ∧
  (∀ idx op sp, (idx, (op, sp)) ∈ tb.2.2.2.2.2.2.2.1 → sv_Cal p l e R s m args below meth c P D AC kd B0 κ0 nL cc op idx sp) ∧ (∀ ci j, (ci, j) ∈ tb.2.2.2.2.2.2.2.2 → ClassAt s (cn j) (D.1 ci)) ∧
  (∀ x, ArrOfT s (AC x) (sv_ety cn x)) ∧ (∀ x, va_RA s (AC x) (sv_ety cn x)) ∧ (∀ at0, sv_atc at0 ≤ 4 → (Cond.arrayClass (newarray.typeOf at0)).before args s = true)
section SVRUN
variable {p : Program} {l : Launch} {e : Env} {R : Room} {s : State} {m : MethodId} {args : Array Value} {below : List Frame} {meth : Method} {c : Code}
variable {P : Nat → List Nat → List Int → (Nat → Nat) → Heap → Prop} {D : va_G} {AC : Nat → ClassId} {kd : List SvK} {B0 : Nat} {κ0 : Nat → Nat} {nL : Nat} {cc : ByteArray} {sl : SvS → Nat → Nat → SvL → SvL → SvL → Nat → List Nat → Option (List SvF × List Nat)} {sup : Nat → List Nat × List Nat} {rl : Nat → SvS → List Nat → Option (SvS × List Nat)} {tw : List (Nat × Nat)} {tb : SvC} {sp : SvP} {rt : Nat} {cuts : List SvJ} {cn : Nat → String} {ρ0 : List Int} {vals : List Value}
def sv_P0 (ρ0 : List Int) (cur : Option SvL) (x : Int) (ρ : List Int) : Prop := (∀ j, j < ρ0.length → sv_nth ρ j = sv_nth ρ0 j) ∧ ∀ μ, cur = some μ → sv_ev ρ μ = some x
def sv_MQ (below : List Frame) (s : State) (args : Array Value) (P : Nat → List Nat → List Int → (Nat → Nat) → Heap → Prop) (D : va_G) (AC : Nat → ClassId) (kd : List SvK) (B0 : Nat) (sp : SvP) (κ0 : Nat → Nat) (ρ0 : List Int) (vals : List Value) : State → Prop :=
  MQ below (fun _ _ o t => ∃ v, o = .returned v ∧ sv_Post P D AC kd B0 sp κ0 s.heap ρ0 vals v t.heap) args s sp.2.2.2.2.2.2.2.1 sp.2.2.2.2.2.2.2.2 (sv_free B0 κ0 s.heap.size)
theorem sv_P0_app {cur : Option SvL} {x : Int} {ρ : List Int} (τ : List Int) (h : sv_P0 ρ0 cur x ρ) : sv_P0 ρ0 cur x (ρ ++ τ) := by
  refine ⟨fun j hj => ?_, fun μ hμ => sv_ev_app (h.2 μ hμ)⟩
  have h1 := h.1 j hj
  have h2 : sv_nth ρ0 j = some ρ0[j] := by rw [sv_nth_eq]; exact List.getElem?_eq_getElem hj
  rw [h2] at h1 ⊢
  exact sv_nth_app h1
theorem sv_run_ok (hsl : sv_Sl P D AC kd B0 sl) (hP : sv_PF P sup D kd) (hiv : sv_ivs kd) (hap : sv_Ap D kd) (hrl : sv_Rl P D AC kd B0 rl) (htw : sv_Tw D tw) (hraw : sv_Raw kd sp.2.2.2.2.2.1) (hth : sv_Th sp) (hpre : sv_Pre P D AC kd B0 sp κ0 s.heap ρ0 vals) (hx : p.tables.exec = Jvm.exec) (hb : c.code = cc) (hlk : meth.locks = false) (hrt : sv_Rt rt meth.sig.returnType) (hmc : sp.2.2.2.2.2.2.2.1 ≤ R.cells) (hms : sp.2.2.2.2.2.2.2.2 ≤ R.slots)
    (hL : sv_Links p l e R s m args below meth c P D AC kd B0 κ0 nL cc cn tb) {cur : Option SvL} {x : Int}
    (hJ : ∀ j pc' T μ, sv_nth cuts j = some (pc', T, μ) → ∀ y : Int, 0 ≤ y → (∀ μ0, cur = some μ0 → y < x) → sv_Good p l e R s m args below meth c (sv_MQ below s args P D AC kd B0 sp κ0 ρ0 vals) P D AC kd B0 κ0 sp.2.2.2.1 sp.2.2.2.2.1 (sv_P0 ρ0 (some μ) y) nL T pc') :
    ∀ (f : Nat) (pend : List (SvS × Nat)) (w w' : List Nat), sv_run sl sup rl kd tw tb nL cc sp rt cuts cur f pend w = some w' → ∀ q ∈ pend, sv_Good p l e R s m args below meth c (sv_MQ below s args P D AC kd B0 sp κ0 ρ0 vals) P D AC kd B0 κ0 sp.2.2.2.1 sp.2.2.2.2.1 (sv_P0 ρ0 cur x) nL q.1 q.2
  | 0, _, _, _, h => by cases h
  | _ + 1, [], _, _, _ => fun q hq => by cases hq
  | _ + 1, _ :: _, [], _, h => by cases h
  | f + 1, (S, pc) :: t, k :: w, w', h => by
    have hPx : ∀ ρ τ, sv_P0 ρ0 cur x ρ → sv_P0 ρ0 cur x (ρ ++ τ) := fun ρ τ h => sv_P0_app τ h
    obtain ⟨p0, p1⟩ : sv_nth ρ0 0 = some (s.heap.size : Int) ∧ sv_nth ρ0 1 = some (sv_slots s.heap : Int) := ⟨hpre.2.1, hpre.2.2.1⟩
    have hP01 : ∀ ρ, sv_P0 ρ0 cur x ρ → sv_nth ρ 0 = some (s.heap.size : Int) ∧ sv_nth ρ 1 = some (sv_slots s.heap : Int) := fun ρ h => by
      refine ⟨?_, ?_⟩
      · rw [h.1 0 (by rw [sv_nth_eq] at p0; exact (List.getElem?_eq_some_iff.mp p0).1)]
        exact p0
      · rw [h.1 1 (by rw [sv_nth_eq] at p1; exact (List.getElem?_eq_some_iff.mp p1).1)]
        exact p1
    have h00 := fun ρ h => (hP01 ρ h).1
    obtain ⟨L1, L2, L3, L4, L5, L6, L7, L8, L9, L10, L11, L12⟩ := hL
    unfold sv_run at h
    cases k8 : Nat.beq k 8 with
    | true =>
      rw [k8] at h
      simp only [cond_true] at h
      split at h
      · rename_i w1 h1
        intro q hq
        rcases List.mem_cons.mp hq with rfl | hq
        · unfold sv_retd at h1
          split at h1
          · rename_i i n hd
            exact sv_ret_ok hiv.2 hP htw hraw hth hpre (fun ρ h => h.1) hx hb hlk hrt hd h1
          · simp at h1
        · exact sv_run_ok hsl hP hiv hap hrl htw hraw hth hpre hx hb hlk hrt hmc hms ⟨L1, L2, L3, L4, L5, L6, L7, L8, L9, L10, L11, L12⟩ hJ f t w1 w' h q hq
      · simp at h
    | false =>
      rw [k8] at h
      simp only [cond_false] at h
      cases k9 : Nat.beq k 9 with
      | true =>
        rw [k9] at h
        simp only [cond_true] at h
        split at h
        · rename_i w1 h1
          intro q hq
          rcases List.mem_cons.mp hq with rfl | hq
          · unfold sv_jmp at h1
            split at h1
            · rename_i j w2
              split at h1
              · rename_i pc' T μ hc
                cases hpc : Nat.beq pc' pc with
                | false => rw [hpc] at h1; cases h1
                | true =>
                  rw [hpc] at h1
                  simp only [cond_true] at h1
                  have e1 := Nat.eq_of_beq_eq_true hpc
                  subst e1
                  split at h1
                  · rename_i σ w3 hm
                    cases hwf : sv_wfs (sv_len S.1) σ with
                    | false => rw [hwf] at h1; cases h1
                    | true =>
                      rw [hwf] at h1
                      simp only [cond_true] at h1
                      rw [sv_len_eq] at hwf
                      split at h1
                      · rename_i μ' hsu
                        split at h1
                        · rename_i w4 hp1
                          intro κ H locs ρ ls st hI hPx0 hS
                          obtain ⟨τ, t1, t2, t3⟩ := sv_match_ok hS hm hwf
                          obtain ⟨y, y1, y2⟩ := sv_su_ok t1 hsu
                          have g1 := sv_pos_ok hS y2 hp1
                          refine hJ j _ T μ hc y g1 (fun μ0 hcur => ?_) κ H locs τ ls st hI ⟨fun i hi => ?_, fun μ1 hμ1 => ?_⟩ t2
                          · rw [hcur] at h1
                            have g2 := sv_pos_ok hS (sv_ev_addc (sv_ev_sub (hPx0.2 μ0 hcur) y2)) h1
                            omega
                          · rw [t3 i (by rw [sv_len_eq, ← hpre.2.2.2.1.1]; exact hi)]
                            exact hPx0.1 i hi
                          · cases hμ1
                            exact y1
                        · simp at h1
                      · simp at h1
                  · simp at h1
              · simp at h1
            · simp at h1
          · exact sv_run_ok hsl hP hiv hap hrl htw hraw hth hpre hx hb hlk hrt hmc hms ⟨L1, L2, L3, L4, L5, L6, L7, L8, L9, L10, L11, L12⟩ hJ f t w1 w' h q hq
        · simp at h
      | false =>
        rw [k9] at h
        simp only [cond_false] at h
        split at h
        · rename_i r w1 h1
          have ih := sv_run_ok hsl hP hiv hap hrl htw hraw hth hpre hx hb hlk hrt hmc hms ⟨L1, L2, L3, L4, L5, L6, L7, L8, L9, L10, L11, L12⟩ hJ f (sv_appb r t) w1 w' h
          rw [sv_appb_eq] at ih
          have hr := fun q hq => ih q (List.mem_append_left _ hq)
          intro q hq
          rcases List.mem_cons.mp hq with rfl | hq
          · unfold sv_step at h1
            cases k10 : Nat.ble 11 k with
            | true =>
              rw [k10] at h1
              exact sv_K_ok hPx hrl h1 hr
            | false =>
              rw [k10] at h1
              simp only [cond_false] at h1
              split at h1
              · rename_i i n hd
                unfold sv_ins1 at h1
                split at h1
                · exact sv_A_ok hx hb hd h1 hr
                · exact sv_B_ok hPx hx hb hd h1 hr
                · exact sv_C_ok hx hb hd h1 hr
                · exact sv_R_ok hPx hx hb L10 L1 L2 L3 L4 hd h1 hr
                · exact sv_Ws_ok hsl hP hiv h00 hx hb L10 L11 L9 hd h1 hr
                · split at h1
                  · rename_i idx
                    cases hn : Nat.beq n 3 with
                    | false => rw [hn] at h1; cases h1
                    | true =>
                      rw [hn] at h1
                      have e1 := Nat.eq_of_beq_eq_true hn
                      subst e1
                      exact sv_pf_ok hP hiv hap h00 hx hb L5 hd h1 hr
                  · simp at h1
                · exact sv_Z_ok hPx hx hb hd h1 hr
                · exact sv_N_ok hP hiv hP01 hmc hms hx hb L11 L12 L6 L7 hd h1 hr
                · exact sv_Y_ok hP hP01 hPx hmc hms L8 hd h1 hr
                · simp at h1
              · simp at h1
          · exact ih q (List.mem_append_right _ hq)
        · simp at h
theorem sv_runC_ok : ∀ {cs : List SvJ} {f : Nat} {w w' : List Nat}, sv_runC sl sup rl kd tw tb nL cc sp rt cuts f cs w = some w' → ∀ j pc T μ, sv_nth cs j = some (pc, T, μ) → ∃ w1 w2, sv_run sl sup rl kd tw tb nL cc sp rt cuts (some μ) f [(T, pc)] w1 = some w2
  | [], _, _, _, _, j, pc, T, μ, h => by simp [sv_nth] at h
  | (pc0, T0, μ0) :: cs, f, w, w', h, j, pc, T, μ, hj => by
    unfold sv_runC at h
    split at h
    · rename_i w1 h1
      cases j with
      | zero =>
        simp only [sv_nth, Option.some.injEq, Prod.mk.injEq] at hj
        obtain ⟨rfl, rfl, rfl⟩ := hj
        exact ⟨_, _, h1⟩
      | succ j => exact sv_runC_ok h j pc T μ hj
    · simp at h
theorem sv_check_ok (hsl : sv_Sl P D AC kd B0 sl) (hP : sv_PF P sup D kd) (hiv : sv_ivs kd) (hap : sv_Ap D kd) (hrl : sv_Rl P D AC kd B0 rl) (htw : sv_Tw D tw) (hraw : sv_Raw kd sp.2.2.2.2.2.1) (hth : sv_Th sp) (hpre : sv_Pre P D AC kd B0 sp κ0 s.heap ρ0 vals) (hx : p.tables.exec = Jvm.exec) (hb : c.code = cc) (hlk : meth.locks = false) (hrt : sv_Rt rt meth.sig.returnType) (hmc : sp.2.2.2.2.2.2.2.1 ≤ R.cells) (hms : sp.2.2.2.2.2.2.2.2 ≤ R.slots)
    (hL : sv_Links p l e R s m args below meth c P D AC kd B0 κ0 nL cc cn tb) {f : Nat} {w : List Nat} (h : sv_check sl sup rl kd tw tb nL cc sp rt cuts f w = true) :
    W p l e R s m args below meth c s.heap [] 0 0 (sv_MQ below s args P D AC kd B0 sp κ0 ρ0 vals) (entryFrame m vals.toArray nL) := by
  unfold sv_check at h
  rw [Bool.and_eq_true] at h
  obtain ⟨h0, h⟩ := h
  split at h
  · rename_i w1 h1
    split at h
    · rename_i w2 h2
      have hC := sv_runC_ok h2
      have key : ∀ (N : Nat) (j pc' : Nat) (T : SvS) (μ : SvL), sv_nth cuts j = some (pc', T, μ) → ∀ y : Int, 0 ≤ y → y < N → sv_Good p l e R s m args below meth c (sv_MQ below s args P D AC kd B0 sp κ0 ρ0 vals) P D AC kd B0 κ0 sp.2.2.2.1 sp.2.2.2.2.1 (sv_P0 ρ0 (some μ) y) nL T pc' := by
        intro N
        induction N with
        | zero => intro j pc' T μ _ y g1 g2; omega
        | succ N ih =>
          intro j pc' T μ hj y g1 g2
          obtain ⟨v1, v2, hv⟩ := hC j pc' T μ hj
          exact sv_run_ok hsl hP hiv hap hrl htw hraw hth hpre hx hb hlk hrt hmc hms hL (fun j2 pc2 T2 μ2 hj2 z g3 g4 => ih j2 pc2 T2 μ2 hj2 z g3 (by have := g4 μ rfl; omega)) f _ _ _ hv _ List.mem_cons_self
      have h3 := sv_run_ok (x := 0) hsl hP hiv hap hrl htw hraw hth hpre hx hb hlk hrt hmc hms hL (fun j2 pc2 T2 μ2 hj2 z g3 _ => key (z.toNat + 1) j2 pc2 T2 μ2 hj2 z g3 (by omega)) f _ _ _ h1 _ List.mem_cons_self
      have hlo : ∀ {as : List SvA} {vs : List Value} (i : Nat), sv_StOk ρ0 as vs → sv_LoOk ρ0 (sv_pl i as) (lv_args i vs) := by
        intro as
        induction as with
        | nil => intro vs i hs; rw [sv_StOk_nil hs]; trivial
        | cons a as ih =>
          intro vs i hs
          obtain ⟨v, vs', rfl, g1, g2⟩ := sv_StOk_cons hs
          refine ⟨rfl, g1, ?_⟩
          have e1 : (if v.category = 2 then i + 2 else i + 1) = (bif Nat.beq a.1 2 then Nat.add i 2 else Nat.add i 1) := by
            cases hq : Nat.beq a.1 2 with
            | true => rw [if_pos (sv_cat2 g1 hq)]; rfl
            | false => rw [if_neg (by rw [sv_cat1 g1 hq]; decide)]; rfl
          rw [e1]
          exact ih _ g2
      obtain ⟨hT, p0, p1, p2, p3, p4⟩ := hpre
      have hlen : (lg_sl vals).length ≤ nL := by
        have e1 : (lg_sl vals).length = (vals.map fun v => v.category).sum := by
          clear h h1 h2 h3 hC key hlo p3 hT p4
          induction vals with
          | nil => rfl
          | cons v vs ih =>
            simp only [lg_sl, List.flatMap_cons, List.length_append, List.map_cons, List.sum_cons] at ih ⊢
            rw [ih]
            rcases lv_cat v with hv | hv <;> simp [hv]
        rw [e1, sv_cats_ok p3]
        exact Nat.le_of_ble_eq_true h0
      have hls := lv_entry vals hlen
      rw [lg_entry_eq]
      have h4 := h3 κ0 s.heap [] ρ0 _ [] ⟨hT, fun _ _ => rfl, sv_Fr_rf0, (fun x hx => by cases hx), Nat.le_refl _, Nat.le_refl _⟩ ⟨fun _ _ => rfl, (fun _ hμ => by cases hμ)⟩ ⟨p2, ⟨_, hls, hlo 0 p3⟩, trivial, fun f hf => ?_⟩
      · rw [Nat.sub_self, Nat.sub_self] at h4
        exact h4
      · rcases List.mem_cons.mp hf with rfl | hf
        · exact ⟨[_], sv_evs_cons.mpr ⟨_, _, sv_ev_v p0, rfl, rfl⟩, rfl⟩
        · rcases List.mem_cons.mp hf with rfl | hf
          · exact ⟨[_], sv_evs_cons.mpr ⟨_, _, sv_ev_v p1, rfl, rfl⟩, rfl⟩
          · exact p4 f hf
    · simp at h
  · simp at h
end SVRUN
