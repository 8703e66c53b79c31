-- ===== Math.min, Math.max =====
/-- two numbers of a tag, the answer is one of them: 0 the first where second minus first is at least k0, 1 the second where first minus second is at least k1 (or the other way round) -/
def sv_spMM (t : Nat) (d0 d1 : SvL) : SvP := ([(0, none), (0, none), (sv_lo t, some (sv_hi t)), (sv_lo t, some (sv_hi t))], [(t, sv_v 2), (t, sv_v 3)], [], [], [], [],
  [([], [(0, [], [d0]), (7, [], [sv_v 0]), (8, [], [sv_v 1])], some (t, sv_v 2)), ([], [(0, [], [d1]), (7, [], [sv_v 0]), (8, [], [sv_v 1])], some (t, sv_v 3))], 0, 0)
theorem sv_MM_post {P : Nat → List Nat → List Int → (Nat → Nat) → Heap → Prop} {D : va_G} {AC : Nat → ClassId} {kd : List SvK} {B0 t : Nat} {d0 d1 : SvL} {κ : Nat → Nat} {H : Heap} {ρ : List Int} {vals : List Value} {v : Value} {x : Int} (k : Nat) (hpre : sv_Pre P D AC kd B0 (sv_spMM t d0 d1) κ H ρ vals)
    (hk : k = 0 ∨ k = 1) (hx : sv_ev ρ (bif Nat.beq k 0 then d0 else d1) = some x) (h0 : 0 ≤ x) (hv : sv_VOk ρ (t, sv_v (k + 2)) v) : sv_Post P D AC kd B0 (sv_spMM t d0 d1) κ H ρ vals (some v) H := by
  obtain ⟨hT, p0, p1, p2, p3, p4⟩ := hpre
  have h7 : ∀ f : SvF, f = (7, [], [sv_v 0]) ∨ f = (8, [], [sv_v 1]) → sv_FOk P D kd κ H (ρ ++ []) f := fun f hf => by
    rw [List.append_nil]
    rcases hf with rfl | rfl
    · exact ⟨[_], sv_evs_cons.mpr ⟨_, _, sv_ev_v p0, rfl, rfl⟩, rfl⟩
    · exact ⟨[_], sv_evs_cons.mpr ⟨_, _, sv_ev_v p1, rfl, rfl⟩, rfl⟩
  refine ⟨κ, hT, sv_Fr_rf0, Nat.le_refl _, fun q _ => Or.inl rfl, Nat.le_refl _, ?_⟩
  rcases hk with rfl | rfl
  · refine ⟨_, List.mem_cons_self, [], by simpa [sv_spMM] using p2, fun f hf => ?_, by simpa [sv_Ans] using hv⟩
    rcases List.mem_cons.mp hf with rfl | hf
    · refine ⟨[x], sv_evs_cons.mpr ⟨_, _, ?_, rfl, rfl⟩, h0⟩
      rw [List.append_nil]
      exact hx
    · exact h7 f (by simpa using hf)
  · refine ⟨_, List.mem_cons_of_mem _ List.mem_cons_self, [], by simpa [sv_spMM] using p2, fun f hf => ?_, by simpa [sv_Ans] using hv⟩
    rcases List.mem_cons.mp hf with rfl | hf
    · refine ⟨[x], sv_evs_cons.mpr ⟨_, _, ?_, rfl, rfl⟩, h0⟩
      rw [List.append_nil]
      exact hx
    · exact h7 f (by simpa using hf)
section SVMM
variable {p : Program} {l : Launch} {e : Env} {R : Room} {s : State} {m : MethodId} {args : Array Value} {below : List Frame} {meth : Method} {c : Code} {P : Nat → List Nat → List Int → (Nat → Nat) → Heap → Prop} {D : va_G} {AC : Nat → ClassId} {kd : List SvK} {B0 : Nat} {κ0 : Nat → Nat} {nL : Nat} {cc : ByteArray}
def sv_spMin : SvP := sv_spMM 1 (sv_sub (sv_v 3) (sv_v 2)) (sv_addc (sv_sub (sv_v 2) (sv_v 3)) (-1))
theorem sv_calMin (hx : p.tables.exec = Jvm.exec) (hb : c.code = cc) (hml : c.maxLocals = nL) {own : String} {idx : Nat} (hown : s.vm.findClass own = some m.cls) (hlink : (Cond.methodLink own idx Lib.Math.min.name).before args s = true) (hstat : (Cond.static Lib.Math.min.name).before args s = true) (hini : (Cond.initialized "java/lang/Math").before args s = true)
    (hcode : (Cond.code Lib.Math.min.name Lib.Math.min.code 2 (some .int)).before args s = true) (hfr : 1 ≤ R.frames) (hlo : 24 ≤ R.locals) : sv_Cal p l e R s m args below meth c P D AC kd B0 κ0 nL cc 1 idx sv_spMin := by
  intro κ H locs cells slots ρ vals rest pc ls hpre h1 h2 h3 hls hsum hd hroom
  obtain ⟨v1, vs1, rfl, q1, hs1⟩ := sv_StOk_cons hpre.2.2.2.2.1
  obtain ⟨v2, vs2, rfl, q2, hs2⟩ := sv_StOk_cons hs1
  have e3 := sv_StOk_nil hs2
  subst e3
  obtain ⟨x, rfl, p1⟩ := sv_VOk1 q1
  obtain ⟨y, rfl, p2⟩ := sv_VOk1 q2
  intro T hT X
  have hc : cells ≤ R.cells := hroom.1
  have hs : slots ≤ R.slots := hroom.2
  obtain ⟨vm', X', st⟩ := X.mathMinV hx hown hlink hstat hini hcode (g := F0 m pc ls (.int y :: .int x :: rest)) rfl (by rw [hml]; exact hls) (a := x) (b := y) (rest := rest) rfl (by rw [hb]; exact hd) hfr (by show 2 * 0 + _ + 13 ≤ _; omega) hc hs
  refine ⟨some (.int (if y < x then y else x)), T, T.setVm vm', T.setVm vm', [], hT, (by rw [List.append_nil]; exact X'), (fun q hq => by cases hq), rfl, rfl, ⟨_, rfl, ?_⟩, st⟩
  show sv_Post P D AC kd B0 _ κ H ρ _ _ T.heap
  rw [hT]
  by_cases hlt : y < x
  · rw [if_pos hlt]
    rw [Int32.lt_iff_toInt_lt] at hlt
    exact sv_MM_post (x := x.toInt - y.toInt + -1) 1 hpre (by decide) (sv_ev_addc (sv_ev_sub p1 p2)) (by omega) (sv_mkV1 p2)
  · rw [if_neg hlt]
    rw [Int32.lt_iff_toInt_lt] at hlt
    exact sv_MM_post (x := y.toInt - x.toInt) 0 hpre (by decide) (sv_ev_sub p2 p1) (by omega) (sv_mkV1 p1)
def sv_spMax : SvP := sv_spMM 1 (sv_sub (sv_v 2) (sv_v 3)) (sv_addc (sv_sub (sv_v 3) (sv_v 2)) (-1))
theorem sv_calMax (hx : p.tables.exec = Jvm.exec) (hb : c.code = cc) (hml : c.maxLocals = nL) {own : String} {idx : Nat} (hown : s.vm.findClass own = some m.cls) (hlink : (Cond.methodLink own idx Lib.Math.max.name).before args s = true) (hstat : (Cond.static Lib.Math.max.name).before args s = true) (hini : (Cond.initialized "java/lang/Math").before args s = true)
    (hcode : (Cond.code Lib.Math.max.name Lib.Math.max.code 2 (some .int)).before args s = true) (hfr : 1 ≤ R.frames) (hlo : 24 ≤ R.locals) : sv_Cal p l e R s m args below meth c P D AC kd B0 κ0 nL cc 1 idx sv_spMax := by
  intro κ H locs cells slots ρ vals rest pc ls hpre h1 h2 h3 hls hsum hd hroom
  obtain ⟨v1, vs1, rfl, q1, hs1⟩ := sv_StOk_cons hpre.2.2.2.2.1
  obtain ⟨v2, vs2, rfl, q2, hs2⟩ := sv_StOk_cons hs1
  have e3 := sv_StOk_nil hs2
  subst e3
  obtain ⟨x, rfl, p1⟩ := sv_VOk1 q1
  obtain ⟨y, rfl, p2⟩ := sv_VOk1 q2
  intro T hT X
  have hc : cells ≤ R.cells := hroom.1
  have hs : slots ≤ R.slots := hroom.2
  obtain ⟨vm', X', st⟩ := va_mathMaxV X hx hown hlink hstat hini hcode (g := F0 m pc ls (.int y :: .int x :: rest)) rfl (by rw [hml]; exact hls) (a := x) (b := y) (rest := rest) rfl (by rw [hb]; exact hd) hfr (by show 2 * 0 + _ + 13 ≤ _; omega) hc hs
  refine ⟨some (.int (if x < y then y else x)), T, T.setVm vm', T.setVm vm', [], hT, (by rw [List.append_nil]; exact X'), (fun q hq => by cases hq), rfl, rfl, ⟨_, rfl, ?_⟩, st⟩
  show sv_Post P D AC kd B0 _ κ H ρ _ _ T.heap
  rw [hT]
  by_cases hlt : x < y
  · rw [if_pos hlt]
    rw [Int32.lt_iff_toInt_lt] at hlt
    exact sv_MM_post (x := y.toInt - x.toInt + -1) 1 hpre (by decide) (sv_ev_addc (sv_ev_sub p2 p1)) (by omega) (sv_mkV1 p2)
  · rw [if_neg hlt]
    rw [Int32.lt_iff_toInt_lt] at hlt
    exact sv_MM_post (x := x.toInt - y.toInt) 0 hpre (by decide) (sv_ev_sub p1 p2) (by omega) (sv_mkV1 p1)
def sv_spMaxL : SvP := sv_spMM 2 (sv_addc (sv_sub (sv_v 2) (sv_v 3)) (-1)) (sv_sub (sv_v 3) (sv_v 2))
theorem sv_calMaxL (hx : p.tables.exec = Jvm.exec) (hb : c.code = cc) (hml : c.maxLocals = nL) {own : String} {idx : Nat} (hown : s.vm.findClass own = some m.cls) (hlink : (Cond.methodLink own idx Lib.MathLoose.max_long.x).before args s = true) (hstat : (Cond.static Lib.MathLoose.max_long.x).before args s = true) (hini : (Cond.initialized "java/lang/Math").before args s = true)
    (hcode : (Cond.code Lib.MathLoose.max_long.x Lib.MathLoose.max_long.code 4 (some .long)).before args s = true) (hfr : 1 ≤ R.frames) (hlo : 24 ≤ R.locals) : sv_Cal p l e R s m args below meth c P D AC kd B0 κ0 nL cc 1 idx sv_spMaxL := by
  intro κ H locs cells slots ρ vals rest pc ls hpre h1 h2 h3 hls hsum hd hroom
  obtain ⟨v1, vs1, rfl, q1, hs1⟩ := sv_StOk_cons hpre.2.2.2.2.1
  obtain ⟨v2, vs2, rfl, q2, hs2⟩ := sv_StOk_cons hs1
  have e3 := sv_StOk_nil hs2
  subst e3
  obtain ⟨x, rfl, p1⟩ := sv_VOk2 q1
  obtain ⟨y, rfl, p2⟩ := sv_VOk2 q2
  intro T hT X
  have hc : cells ≤ R.cells := hroom.1
  have hs : slots ≤ R.slots := hroom.2
  obtain ⟨vm', X', st⟩ := va_max_longV X hx hown hlink hstat hini hcode (g := F0 m pc ls (.long y :: .long x :: rest)) rfl (by rw [hml]; exact hls) (a := x) (b := y) (rest := rest) rfl (by rw [hb]; exact hd) hfr (by show 2 * 0 + _ + 15 ≤ _; omega) hc hs
  refine ⟨some (.long (if y < x then x else y)), T, T.setVm vm', T.setVm vm', [], hT, (by rw [List.append_nil]; exact X'), (fun q hq => by cases hq), rfl, rfl, ⟨_, rfl, ?_⟩, st⟩
  show sv_Post P D AC kd B0 _ κ H ρ _ _ T.heap
  rw [hT]
  by_cases hlt : y < x
  · rw [if_pos hlt]
    rw [Int64.lt_iff_toInt_lt] at hlt
    exact sv_MM_post (x := x.toInt - y.toInt + -1) 0 hpre (by decide) (sv_ev_addc (sv_ev_sub p1 p2)) (by omega) (sv_mkV2 p1)
  · rw [if_neg hlt]
    rw [Int64.lt_iff_toInt_lt] at hlt
    exact sv_MM_post (x := y.toInt - x.toInt) 1 hpre (by decide) (sv_ev_sub p2 p1) (by omega) (sv_mkV2 p2)
end SVMM
