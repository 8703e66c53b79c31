-- ===== from a check to a method's law, and on to its calls =====
def sv_Pc (P : Nat → List Nat → List Int → (Nat → Nat) → Heap → Prop) (D : va_G) (AC : Nat → ClassId) (kd : List SvK) (B0 : Nat) (Kn : (Nat → Nat) → State → Prop) (sp : SvP) (κ : Nat → Nat) (ρ : List Int) (vals : List Value) (h0 : Nat) : Array Value → State → Prop :=
  fun v U => v = vals.toArray ∧ sv_Pre P D AC kd B0 sp κ U.heap ρ vals ∧ U.heap.size = h0 ∧ Kn κ U
def sv_Qc (P : Nat → List Nat → List Int → (Nat → Nat) → Heap → Prop) (D : va_G) (AC : Nat → ClassId) (kd : List SvK) (B0 : Nat) (sp : SvP) (κ : Nat → Nat) (ρ : List Int) (vals : List Value) : Array Value → State → Outcome → State → Prop :=
  fun _ st o t => ∃ v, o = .returned v ∧ sv_Post P D AC kd B0 sp κ st.heap ρ vals v t.heap
def sv_Mt (l : Launch) (P : Nat → List Nat → List Int → (Nat → Nat) → Heap → Prop) (D : va_G) (AC : Nat → ClassId) (kd : List SvK) (B0 : Nat) (Kn : (Nat → Nat) → State → Prop) (y : MethodName) (ws : List Cond) (rm : Room) (sp : SvP) : Prop :=
  ∀ (κ : Nat → Nat) (ρ : List Int) (vals : List Value) (h0 : Nat), Met l y ws rm (sv_Pc P D AC kd B0 Kn sp κ ρ vals h0) (sv_Qc P D AC kd B0 sp κ ρ vals) sp.2.2.2.2.2.2.2.1 sp.2.2.2.2.2.2.2.2 (sv_free B0 κ h0)
/-- what is known of the tables goes on with the run -/
def sv_Kg (Kn : (Nat → Nat) → State → Prop) : Prop := ∀ (κ κ' : Nat → Nat) (u U : State), u.vm.Alike U.vm → (∀ q, q < u.heap.size → κ' q = κ q) → (∀ (q : Nat) (c : Cell), u.heap[q]? = some c → κ q = 0 → U.heap[q]? = some c) → u.heap.size ≤ U.heap.size → Kn κ u → Kn κ' U
section SVMET
variable {l : Launch} {P : Nat → List Nat → List Int → (Nat → Nat) → Heap → Prop} {D : va_G} {AC : Nat → ClassId} {kd : List SvK} {B0 : Nat} {nL : Nat} {cc : ByteArray} {sl : SvS → Nat → Nat → SvL → SvL → SvL → Nat → List Nat → Option (List SvF × List Nat)} {sup : Nat → List Nat × List Nat} {rl : Nat → SvS → List Nat → Option (SvS × List Nat)} {tw : List (Nat × Nat)} {tb : SvC} {sp : SvP} {rt : Nat} {cuts : List SvJ} {cn : Nat → String} {Kn : (Nat → Nat) → State → Prop}
theorem sv_met {y : MethodName} {ws ws' : List Cond} {rm : Room} {ret : Option FieldType} (hsl : sv_Sl P D AC kd B0 sl) (hP : sv_PF P sup D kd) (hiv : sv_ivs kd) (hap : sv_Ap D kd) (hrl : sv_Rl P D AC kd B0 rl) (htw : sv_Tw D tw) (hraw : sv_Raw kd sp.2.2.2.2.2.1) (hth : sv_Th sp)
    (hy : plainName y.cls = true) (hw : ws = Cond.code y cc nL ret :: ws') (hrt : sv_Rt rt ret) (hrc : rm.cells = sp.2.2.2.2.2.2.2.1) (hrs : rm.slots = sp.2.2.2.2.2.2.2.2)
    (hL : ∀ (p : Program) (e : Env) (s : State) (m : MethodId) (args : Array Value) (below : List Frame) (meth : Method) (c : Code) (κ0 : Nat → Nat), p.tables.exec = Jvm.exec → c.code = cc → c.maxLocals = nL → s.vm.findClass y.cls = some m.cls → meth.name = y.name → (∀ w ∈ ws, w.before args s = true) → Kn κ0 s → sv_Links p l e rm s m args below meth c P D AC kd B0 κ0 nL cc cn tb)
    {f : Nat} {w : List Nat} (h : sv_check sl sup rl kd tw tb nL cc sp rt cuts f w = true) : sv_Mt l P D AC kd B0 Kn y ws rm sp := by
  intro κ ρ vals h0
  refine Met.ofW (cc := cc) (maxL := nL) (ret := ret) hy hw ?_
  intro p e s m args below meth c s₁ B hml hpc
  obtain ⟨rfl, hpre, rfl, hk⟩ := hpc
  have hts := atoms_spec (ws := ws) B.pre
  have hown : s.vm.findClass y.cls = some m.cls := findClass_of_methodNamed B.named
  have hlinks := hL p e s m vals.toArray below meth c κ B.exec B.bytes hml hown (name_of_methodNamed B.named B.method).1 hts hk
  exact sv_check_ok hsl hP hiv hap hrl htw hraw hth hpre B.exec B.bytes B.notSynchronized (by rw [B.returns]; exact hrt) (by show _ ≤ rm.cells; rw [hrc]; exact Nat.le_refl _) (by show _ ≤ rm.slots; rw [hrs]; exact Nat.le_refl _) hlinks h
variable {p : Program} {e : Env} {R : Room} {s : State} {m : MethodId} {args : Array Value} {below : List Frame} {meth : Method} {c : Code} {κ0 : Nat → Nat}
theorem sv_Pc_blind {Kn : (Nat → Nat) → State → Prop} (hK : sv_Kg Kn) {sp : SvP} {κ : Nat → Nat} {ρ : List Int} {vals : List Value} {h0 : Nat} : FrameBlind (sv_Pc P D AC kd B0 Kn sp κ ρ vals h0) := by
  intro a U g mk h
  obtain ⟨h1, h2, h3, h4⟩ := h
  exact ⟨h1, h2, h3, hK κ κ U _ (Vm.Alike.refl _) (fun _ _ => rfl) (fun _ _ h _ => h) (Nat.le_refl _) h4⟩
theorem sv_Pc_at {Kn : (Nat → Nat) → State → Prop} (hK : sv_Kg Kn) (hk0 : Kn κ0 s) {sp : SvP} {κ : Nat → Nat} {H : Heap} {ρ : List Int} {vals : List Value} (hpre : sv_Pre P D AC kd B0 sp κ H ρ vals) (h1 : ∀ q, q < s.heap.size → κ q = κ0 q) (h2 : ∀ (q : Nat) (c : Cell), s.heap[q]? = some c → κ0 q = 0 → H[q]? = some c) (h3 : s.heap.size ≤ H.size) :
    ∀ U : State, U.heap = H → s.WarmedH U.vm → sv_Pc P D AC kd B0 Kn sp κ ρ vals H.size vals.toArray U := by
  intro U hU hW
  subst hU
  exact ⟨rfl, hpre, rfl, hK κ0 κ s U hW.alike h1 h2 h3 hk0⟩
theorem sv_run_to {sp : SvP} {κ : Nat → Nat} {H : Heap} {locs : List Loc} {cells slots mc ms : Nat} {ρ : List Int} {vals rest : List Value} {g : JFrame} {free : Addr → Prop} {a : Array Value} (h : va_Run p l e R s m args below meth c H locs cells slots mc ms g rest (sv_Qc P D AC kd B0 sp κ ρ vals a) free) :
    va_Run p l e R s m args below meth c H locs cells slots mc ms g rest (fun _ o t => ∃ v, o = .returned v ∧ sv_Post P D AC kd B0 sp κ H ρ vals v t.heap) free := by
  intro T hT X
  obtain ⟨v, st₀, t, T', L, h0, X', hL, e1, e2, hq, st⟩ := h T hT X
  have hq : ∃ v', Outcome.returned v = .returned v' ∧ sv_Post P D AC kd B0 sp κ st₀.heap ρ vals v' t.heap := hq
  rw [h0] at hq
  exact ⟨v, st₀, t, T', L, h0, X', hL, e1, e2, hq, st⟩
/-- the first value is a cell of a class -/
def sv_thi (kd : List SvK) (cis : List Nat) (sp : SvP) : Bool := match sp.2.1 with
  | (3, (0, [(v, 1)])) :: _ => (match sv_nth sp.1 v with
    | some q => sv_ge0 q.1 && sp.2.2.1.any (fun f => match f with
      | (1, [K], [x]) => sv_leq x (sv_v v) && (match sv_nth kd K with
        | some k => Nat.beq k.1 0 && sv_nin k.2.1 cis
        | none => false)
      | _ => false)
    | none => false)
  | _ => false
theorem sv_thi_ok {cis : List Nat} {sp : SvP} (h : sv_thi kd cis sp = true) {κ : Nat → Nat} {H : Heap} {ρ : List Int} {vals : List Value} (hpre : sv_Pre P D AC kd B0 sp κ H ρ vals) :
    ∃ (b : Nat) (As : List Value) (cell : Cell) (ci : Nat), vals = .ref b :: As ∧ H[b]? = some cell ∧ cell.vm = .none ∧ ci ∈ cis ∧ cell.cls = D.1 ci := by
  obtain ⟨hT, p0, p1, p2, p3, p4⟩ := hpre
  unfold sv_thi at h
  split at h
  · rename_i v t hps
    split at h
    · rename_i q hq
      rw [Bool.and_eq_true] at h
      obtain ⟨h1, h2⟩ := h
      obtain ⟨f, hf, h3⟩ := List.any_eq_true.mp h2
      rw [hps] at p3
      obtain ⟨v1, vs, rfl, g1, -⟩ := sv_StOk_cons p3
      have g2 : sv_ev ρ (sv_v v) = some (sv_enc v1) := g1.2.2
      have g3 := p2.2 v _ q (sv_ev_v_inv g2) hq
      have g4 := (sv_ge0_iff _).mp h1
      split at h3
      · rename_i K x
        rw [Bool.and_eq_true] at h3
        have e1 := sv_leq_eq h3.1
        subst e1
        have h4 := h3.2
        split at h4
        · rename_i k hk
          rw [Bool.and_eq_true] at h4
          have k0 := Nat.eq_of_beq_eq_true h4.1
          obtain ⟨xs, f1, f2⟩ := p4 _ hf
          obtain ⟨y1, z1, f3, f4, rfl⟩ := sv_evs_cons.mp f1
          simp only [sv_evs, Option.some.injEq] at f4
          subst f4
          rw [g2] at f3
          cases f3
          obtain ⟨kk, f5⟩ := f2
          have g0 : 0 ≤ sv_enc v1 := by omega
          rcases sv_val3 g1.1 with ⟨rfl, e2⟩ | ⟨b, rfl, e2⟩
          · rw [e2] at g0
            exact absurd g0 (by decide)
          · rcases f5 with f5 | ⟨a, f5, f6, f7⟩
            · omega
            · have e3 : b = a := by omega
              subst e3
              obtain ⟨k', cell, r1, r2, r3⟩ := hT.1 b (by rw [f7]; exact kk)
              rw [f7, hk] at r1
              cases r1
              rcases r3 with ⟨-, r4, r5, -⟩ | ⟨r4, -⟩
              · exact ⟨b, vs, cell, k.2.1, rfl, r2, r5, sv_nin_mem h4.2, r4⟩
              · rw [k0] at r4; cases r4
        · simp at h4
      · simp at h3
    · simp at h
  · simp at h
theorem sv_calV {Kn : (Nat → Nat) → State → Prop} (hK : sv_Kg Kn) (hk0 : Kn κ0 s) {y : MethodName} {ws Ts : List Cond} {rm : Room} {sp : SvP} {own C : String} {idx n maxL : Nat} {bytes : ByteArray} {ret : Option FieldType} {cis : List Nat} (hM : sv_Mt l P D AC kd B0 Kn y ws rm sp) (Sx : CallFix p m c cc nL s args Ts own)
    (cw : CallW R s args own C idx y bytes maxL ret ws rm sp.2.2.2.2.2.2.2.1 sp.2.2.2.2.2.2.2.2 n) (hn : sp.2.1.length = n + 1) (ht : sv_thi kd cis sp = true) (hC : ∀ ci ∈ cis, s.vm.findClass C = some (D.1 ci)) : sv_Cal p l e R s m args below meth c P D AC kd B0 κ0 nL cc 0 idx sp := by
  intro κ H locs cells slots ρ vals rest pc ls hpre h1 h2 h3 hls hsum hd hroom
  obtain ⟨b, As, cell, ci, rfl, g1, g2, g3, g4⟩ := sv_thi_ok ht hpre
  refine sv_run_to (va_runV Sx (hM κ ρ _ H.size) cw ⟨sv_Pc_blind hK, ⟨cell, g1, by rw [g2]; rfl, by rw [g4]; exact hC ci g3⟩, sv_Pc_at hK hk0 hpre h1 h2 h3⟩ rfl ?_ hls (by simp) ?_ hd hroom)
  · have := sv_StOk_len hpre.2.2.2.2.1
    simp only [List.length_cons] at this
    omega
  · simpa [JFrame.monitorRoom] using hsum
theorem sv_calS {Kn : (Nat → Nat) → State → Prop} (hK : sv_Kg Kn) (hk0 : Kn κ0 s) {y : MethodName} {ws Ts : List Cond} {rm : Room} {sp : SvP} {own : String} {idx n maxL : Nat} {bytes : ByteArray} {ret : Option FieldType} (hM : sv_Mt l P D AC kd B0 Kn y ws rm sp) (Sx : CallFix p m c cc nL s args Ts own)
    (cw : CallB R s args own idx y bytes maxL ret ws rm sp.2.2.2.2.2.2.2.1 sp.2.2.2.2.2.2.2.2 n ∧ (Cond.static y).before args s = true) (hn : sp.2.1.length = n) : sv_Cal p l e R s m args below meth c P D AC kd B0 κ0 nL cc 1 idx sp := by
  intro κ H locs cells slots ρ vals rest pc ls hpre h1 h2 h3 hls hsum hd hroom
  refine sv_run_to (va_runS Sx (hM κ ρ _ H.size) cw ⟨sv_Pc_blind hK, sv_Pc_at hK hk0 hpre h1 h2 h3⟩ rfl ?_ hls rfl ?_ hd hroom)
  · have := sv_StOk_len hpre.2.2.2.2.1
    omega
  · simpa [JFrame.monitorRoom] using hsum
theorem sv_calI {Kn : (Nat → Nat) → State → Prop} (hK : sv_Kg Kn) (hk0 : Kn κ0 s) {y : MethodName} {ws Ts : List Cond} {rm : Room} {sp : SvP} {own : String} {idx n maxL : Nat} {bytes : ByteArray} {cis : List Nat} (hM : sv_Mt l P D AC kd B0 Kn y ws rm sp) (Sx : CallFix p m c cc nL s args Ts own)
    (cw : CallB R s args own idx y bytes maxL none ws rm sp.2.2.2.2.2.2.2.1 sp.2.2.2.2.2.2.2.2 n ∧ y.name = "<init>" ∧ (Cond.instanceMethod y).before args s = true) (hn : sp.2.1.length = n + 1) (ht : sv_thi kd cis sp = true) : sv_Cal p l e R s m args below meth c P D AC kd B0 κ0 nL cc 2 idx sp := by
  intro κ H locs cells slots ρ vals rest pc ls hpre h1 h2 h3 hls hsum hd hroom
  obtain ⟨b, As, cell, ci, rfl, g1, g2, g3, g4⟩ := sv_thi_ok ht hpre
  refine sv_run_to (va_runI Sx (hM κ ρ _ H.size) cw ⟨sv_Pc_blind hK, sv_Pc_at hK hk0 hpre h1 h2 h3⟩ rfl ?_ hls (by simp) ?_ hd hroom)
  · have := sv_StOk_len hpre.2.2.2.2.1
    simp only [List.length_cons] at this
    omega
  · simpa [JFrame.monitorRoom] using hsum
theorem sv_calVN {Kn : (Nat → Nat) → State → Prop} (hK : sv_Kg Kn) (hk0 : Kn κ0 s) {y : MethodName} {ws Ts : List Cond} {rm : Room} {sp : SvP} {own C host : String} {idx n maxL : Nat} {bytes : ByteArray} {ret : Option FieldType} {cis : List Nat} (hM : sv_Mt l P D AC kd B0 Kn y ws rm sp) (Sx : CallFix p m c cc nL s args Ts own)
    (cw : va_CN R s args own idx y host bytes maxL ret ws rm sp.2.2.2.2.2.2.2.1 sp.2.2.2.2.2.2.2.2 n ∧ (Cond.instanceMethod y).before args s = true ∧ (Cond.selects C y y).before args s = true) (hn : sp.2.1.length = n + 1) (ht : sv_thi kd cis sp = true) (hC : ∀ ci ∈ cis, s.vm.findClass C = some (D.1 ci)) : sv_Cal p l e R s m args below meth c P D AC kd B0 κ0 nL cc 0 idx sp := by
  intro κ H locs cells slots ρ vals rest pc ls hpre h1 h2 h3 hls hsum hd hroom
  obtain ⟨b, As, cell, ci, rfl, g1, g2, g3, g4⟩ := sv_thi_ok ht hpre
  refine sv_run_to (va_runVN Sx (hM κ ρ _ H.size) cw ⟨sv_Pc_blind hK, ⟨cell, g1, by rw [g2]; rfl, by rw [g4]; exact hC ci g3⟩, sv_Pc_at hK hk0 hpre h1 h2 h3⟩ rfl ?_ hls (by simp) ?_ hd hroom)
  · have := sv_StOk_len hpre.2.2.2.2.1
    simp only [List.length_cons] at this
    omega
  · simpa [JFrame.monitorRoom] using hsum
theorem sv_calSN {Kn : (Nat → Nat) → State → Prop} (hK : sv_Kg Kn) (hk0 : Kn κ0 s) {y : MethodName} {ws Ts : List Cond} {rm : Room} {sp : SvP} {own host : String} {idx n maxL : Nat} {bytes : ByteArray} {ret : Option FieldType} (hM : sv_Mt l P D AC kd B0 Kn y ws rm sp) (Sx : CallFix p m c cc nL s args Ts own)
    (cw : va_CN R s args own idx y host bytes maxL ret ws rm sp.2.2.2.2.2.2.2.1 sp.2.2.2.2.2.2.2.2 n ∧ (Cond.static y).before args s = true ∧ True) (hn : sp.2.1.length = n) : sv_Cal p l e R s m args below meth c P D AC kd B0 κ0 nL cc 1 idx sp := by
  intro κ H locs cells slots ρ vals rest pc ls hpre h1 h2 h3 hls hsum hd hroom
  refine sv_run_to (va_runSN Sx (hM κ ρ _ H.size) cw ⟨sv_Pc_blind hK, sv_Pc_at hK hk0 hpre h1 h2 h3⟩ rfl ?_ hls rfl ?_ hd hroom)
  · have := sv_StOk_len hpre.2.2.2.2.1
    omega
  · simpa [JFrame.monitorRoom] using hsum
theorem sv_calIN {Kn : (Nat → Nat) → State → Prop} (hK : sv_Kg Kn) (hk0 : Kn κ0 s) {y : MethodName} {ws Ts : List Cond} {rm : Room} {sp : SvP} {own host : String} {idx n maxL : Nat} {bytes : ByteArray} {cis : List Nat} (hM : sv_Mt l P D AC kd B0 Kn y ws rm sp) (Sx : CallFix p m c cc nL s args Ts own)
    (cw : va_CN R s args own idx y host bytes maxL none ws rm sp.2.2.2.2.2.2.2.1 sp.2.2.2.2.2.2.2.2 n ∧ y.name = "<init>" ∧ (Cond.instanceMethod y).before args s = true) (hn : sp.2.1.length = n + 1) (ht : sv_thi kd cis sp = true) : sv_Cal p l e R s m args below meth c P D AC kd B0 κ0 nL cc 2 idx sp := by
  intro κ H locs cells slots ρ vals rest pc ls hpre h1 h2 h3 hls hsum hd hroom
  obtain ⟨b, As, cell, ci, rfl, g1, g2, g3, g4⟩ := sv_thi_ok ht hpre
  refine sv_run_to (va_runIN Sx (hM κ ρ _ H.size) cw ⟨sv_Pc_blind hK, sv_Pc_at hK hk0 hpre h1 h2 h3⟩ rfl ?_ hls (by simp) ?_ hd hroom)
  · have := sv_StOk_len hpre.2.2.2.2.1
    simp only [List.length_cons] at this
    omega
  · simpa [JFrame.monitorRoom] using hsum
end SVMET
