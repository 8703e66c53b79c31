-- ===== what the tables say, class by class =====
def sv_fbT (b : Nat) (t : FieldType) : Bool := match b, t with
  | 0, .int => true
  | 1, .boolean => true
  | 2, .long => true
  | 3, .object _ => true
  | 3, .array _ => true
  | _, _ => false
theorem sv_fbT_ok {b : Nat} {t : FieldType} (h : sv_fbT b t = true) {v : Value} (hv : sv_fbv b v) : narrow t v = v ∧ fits t v = true := by
  unfold sv_fbT at h
  split at h
  · obtain ⟨x, rfl, -⟩ := sv_val1 (show sv_tag v = 1 from hv)
    exact ⟨rfl, rfl⟩
  · obtain ⟨h1, h2, h3⟩ := hv
    obtain ⟨x, rfl, e⟩ := sv_val1 h1
    rw [e] at h2 h3
    refine ⟨sv_nbool h2 h3, ?_⟩
    have h4 : x.toInt = 0 ∨ x.toInt = 1 := by omega
    rcases h4 with h4 | h4
    · have : x = 0 := Int32.toInt_inj.mp (by rw [h4]; decide)
      subst this
      decide
    · have : x = 1 := Int32.toInt_inj.mp (by rw [h4]; decide)
      subst this
      decide
  · obtain ⟨x, rfl, -⟩ := sv_val2 (show sv_tag v = 2 from hv)
    exact ⟨rfl, rfl⟩
  · rcases sv_val3 (show sv_tag v = 3 from hv) with ⟨rfl, -⟩ | ⟨a, rfl, -⟩ <;> exact ⟨rfl, rfl⟩
  · rcases sv_val3 (show sv_tag v = 3 from hv) with ⟨rfl, -⟩ | ⟨a, rfl, -⟩ <;> exact ⟨rfl, rfl⟩
  · cases h
def sv_dT (b : Nat) (t : FieldType) : Bool := match b, t with
  | 0, .int => true
  | 1, .boolean => true
  | 2, .long => true
  | 3, .object _ => true
  | 3, .array _ => true
  | _, _ => false
theorem sv_dT_ok {b : Nat} {t : FieldType} (h : sv_dT b t = true) : defaultValue t = sv_dv b := by
  unfold sv_dT at h
  split at h
  · rfl
  · rfl
  · rfl
  · rfl
  · rfl
  · cases h
def sv_dTs (ty : Nat → FieldType) : Nat → List Nat → Bool
  | _, [] => true
  | k, b :: bs => sv_dT b (ty k) && sv_dTs ty (k + 1) bs
theorem sv_dTs_ok {ty : Nat → FieldType} : ∀ {bs : List Nat} {k : Nat}, sv_dTs ty k bs = true → ∀ f b, sv_nth bs f = some b → defaultValue (ty (k + f)) = sv_dv b
  | [], _, _, f, b, h => by simp [sv_nth] at h
  | b0 :: bs, k, h, f, b, hf => by
    simp only [sv_dTs, Bool.and_eq_true] at h
    cases f with
    | zero =>
      simp only [sv_nth, Option.some.injEq] at hf
      subst hf
      exact sv_dT_ok h.1
    | succ f =>
      simp only [sv_nth] at hf
      rw [show k + (f + 1) = k + 1 + f from by omega]
      exact sv_dTs_ok h.2 f b hf
section SVLINK
variable {s : State} {m : MethodId} {args : Array Value} {meth : Method} {D : va_G} {Ts : List Cond} {own C : String} {T : u_T} {N ci idx f : Nat} {ty : Nat → FieldType}
theorem sv_lnG (hts : ∀ w ∈ Ts, w.before args s = true) (hin : ∀ w ∈ u_ws C T N, w ∈ Ts) (hown : s.vm.findClass own = some m.cls) (hK : u_Kn s C T N (D.1 ci) (D.2 ci)) (hf : f < N) (hl : Cond.fieldLink own idx (T f).1 (T f).2.1 (T f).2.2.1 ∈ Ts) : sv_LkG s m args D idx ci f := by
  obtain ⟨cf, kf, fi, fd, hi, he⟩ := hK.1 f hf
  obtain ⟨hfc, kC, hkC, -⟩ := hK.2
  exact ⟨own, _, _, _, cf, fi, kf, fd, hown, hts _ hl, hi, (u_facts hfc hkC (u_lays hts hin hf) hi).1, he⟩
theorem sv_lnP {b : Nat} (hts : ∀ w ∈ Ts, w.before args s = true) (hin : ∀ w ∈ u_ws C T N, w ∈ Ts) (hty : ∀ k, k < N → parseFieldDescriptor (T k).2.2.1 = some (ty k)) (hown : s.vm.findClass own = some m.cls) (hK : u_Kn s C T N (D.1 ci) (D.2 ci)) (hf : f < N) (hl : Cond.fieldLink own idx (T f).1 (T f).2.1 (T f).2.2.1 ∈ Ts)
    (hb : sv_fbT b (ty f) = true) (hfin : (T f).2.2.2 = false ∨ ((T f).1 = own ∧ meth.name = "<init>")) : sv_LkP s m meth args D idx ci f b := by
  obtain ⟨cf, kf, fi, fd, hi, he⟩ := hK.1 f hf
  obtain ⟨hfc, kC, hkC, hkind⟩ := hK.2
  refine ⟨own, _, _, _, cf, fi, kf, fd, hown, hts _ hl, hi, (u_facts hfc hkC (u_lays hts hin hf) hi).1, he, ?_, fun v hv => ?_⟩
  · have hlay := hts _ (hin _ (u_in_lay hf))
    unfold u_lay at hlay
    split at hlay
    · rename_i h4
      rcases hfin with h5 | ⟨h5, h6⟩
      · rw [h4] at h5
        cases h5
      · obtain ⟨_, _, c', _, _, _, -, -, hf', -, -, -, hown2, -⟩ := Cond.laysFinal_spec hlay
        have e1 : c' = cf := by have := hi.symm.trans hf'; simp at this; exact this.1.symm
        rw [h5] at hown2
        exact Or.inr ⟨by rw [← e1]; exact Option.some.inj (hown.symm.trans hown2), h6⟩
    · obtain ⟨c, k, cf', kf', fi', fd', r1, r2, hi', hst, hfin, -⟩ := Cond.lays_spec hlay
      cases hi.symm.trans hi'
      exact Or.inl hfin
  · obtain ⟨h1, h2⟩ := sv_fbT_ok hb hv
    exact u_fits hfc hkC hkind (u_lays hts hin hf) hi (hty f hf) h1 h2
theorem sv_lnI {v : Int} {x : Int32} (hts : ∀ w ∈ Ts, w.before args s = true) (hown : s.vm.findClass own = some m.cls) (hl : Cond.constant own idx x ∈ Ts) (hv : x.toInt = v) : sv_LkI s m args idx v := ⟨own, x, hown, hts _ hl, hv⟩
theorem sv_lnL {v : Int} {x : Int64} (hts : ∀ w ∈ Ts, w.before args s = true) (hown : s.vm.findClass own = some m.cls) (hl : Cond.constantLong own idx x ∈ Ts) (hv : x.toInt = v) : sv_LkL s m args idx v := ⟨own, x, hown, hts _ hl, hv⟩
theorem sv_lnA {cn : Nat → String} {j : Nat} (hts : ∀ w ∈ Ts, w.before args s = true) (hown : s.vm.findClass own = some m.cls) (hl : Cond.classLink own idx (cn j) ∈ Ts) (ho : Cond.arrayOver (.object (cn j)) ∈ Ts) : sv_LkA s m args cn idx j := ⟨own, hown, hts _ hl, hts _ ho⟩
theorem sv_lnN {n : Nat} {fbs : List Nat} (hts : ∀ w ∈ Ts, w.before args s = true) (hin : ∀ w ∈ u_ws C T N, w ∈ Ts) (hty : ∀ k, k < N → parseFieldDescriptor (T k).2.2.1 = some (ty k)) (hown : s.vm.findClass own = some m.cls) (hK : u_Kn s C T N (D.1 ci) (D.2 ci)) (hl : Cond.classLink own idx C ∈ Ts) (hi : Cond.instantiable C n ∈ Ts) (hz : Cond.initialized C ∈ Ts)
    (hfb : sv_dTs ty 0 fbs = true) (hlen : fbs.length ≤ N) : sv_LkN s m args D idx ci n fbs := by
  have hfc : s.vm.findClass C = some (D.1 ci) := hK.2.1
  refine ⟨own, C, hown, hts _ hl, hts _ hi, hts _ hz, hfc, fun kC hkC => ⟨?_, fun g b hg => ?_⟩⟩
  · obtain ⟨cC, kC', h1, h2, h3, h4⟩ := Cond.instantiable_spec (hts _ hi)
    cases hfc.symm.trans h1
    cases hkC.symm.trans h2
    simpa [blank] using h4.2.2
  · have hgN : g < N := by
      rw [sv_nth_eq] at hg
      exact Nat.lt_of_lt_of_le (List.getElem?_eq_some_iff.mp hg).1 hlen
    obtain ⟨cell, c1, c2, c3, c4⟩ := u_born (H := #[blank (D.1 ci) kC]) (o := 0) ty hts hin hK hkC rfl hty
    have c1 : some (blank (D.1 ci) kC) = some cell := c1
    cases c1
    rw [c4 g hgN]
    have := sv_dTs_ok hfb g b hg
    rw [Nat.zero_add] at this
    exact congrArg some this
end SVLINK
