-- ===== values and cells =====
def sv_enc : Value → Int
  | .int x => x.toInt
  | .long x => x.toInt
  | .ref a => (a : Int)
  | .null => -1
  | _ => 0
def sv_tag : Value → Nat
  | .int _ => 1
  | .long _ => 2
  | .ref _ => 3
  | .null => 3
  | _ => 0
theorem sv_val1 {v : Value} (h : sv_tag v = 1) : ∃ x : Int32, v = .int x ∧ sv_enc v = x.toInt := by
  cases v <;> simp [sv_tag] at h
  exact ⟨_, rfl, rfl⟩
theorem sv_val2 {v : Value} (h : sv_tag v = 2) : ∃ x : Int64, v = .long x ∧ sv_enc v = x.toInt := by
  cases v <;> simp [sv_tag] at h
  exact ⟨_, rfl, rfl⟩
theorem sv_val3 {v : Value} (h : sv_tag v = 3) : (v = .null ∧ sv_enc v = -1) ∨ ∃ a : Nat, v = .ref a ∧ sv_enc v = (a : Int) := by
  cases v <;> simp [sv_tag] at h
  · exact Or.inl ⟨rfl, rfl⟩
  · exact Or.inr ⟨_, rfl, rfl⟩
theorem sv_val_eq {v w : Value} (h : sv_tag v = sv_tag w) (h0 : sv_tag w ≠ 0) (e : sv_enc v = sv_enc w) : v = w := by
  cases v <;> cases w <;> simp [sv_tag] at h h0 <;> simp [sv_enc] at e <;> first | rfl | omega | (rw [Int32.toInt_inj.mp e]) | (rw [Int64.toInt_inj.mp e]) | (congr 1; exact Int.ofNat.inj e)
-- a type: tag, least, most, kind of what is referred to, whether it may be null
abbrev SvT : Type := Nat × Int × Int × Nat × Bool
-- a kind: 0 an object | 1 an array; number of its description; types; rows that hold; least and most length; whether nobody writes it
abbrev SvK : Type := Nat × Nat × List SvT × List SvL × Nat × Nat × Bool
def sv_FtOk (κ : Nat → Nat) (sz : Nat) (T : SvT) (v : Value) : Prop :=
  sv_tag v = T.1 ∧ (T.1 ≠ 3 → T.2.1 ≤ sv_enc v ∧ sv_enc v ≤ T.2.2.1) ∧ (T.1 = 3 → (v = .null ∧ T.2.2.2.2 = true) ∨ ∃ a : Nat, v = .ref a ∧ a < sz ∧ κ a = T.2.2.2.1)
/-- what a row of a kind speaks of: 2 f the value of field f, 2 f + 1 the length of the array there -/
def sv_cv (D : va_G) (H : Heap) (ci : Nat) (cell : Cell) (u : Nat) : Int := match cell.slots[D.2 ci (u / 2)]? with
  | some v => if u % 2 = 0 then sv_enc v else match v with
    | .ref a => match H[a]? with
      | some c2 => (c2.slots.size : Int)
      | none => 0
    | _ => 0
  | none => 0
def sv_ivT (D : va_G) (H : Heap) (ci : Nat) (cell : Cell) : List (Nat × Int) → Int
  | [] => 0
  | (u, c) :: t => c * sv_cv D H ci cell u + sv_ivT D H ci cell t
def sv_ObOk (D : va_G) (κ : Nat → Nat) (H : Heap) (K : SvK) (cell : Cell) : Prop :=
  cell.cls = D.1 K.2.1 ∧ cell.vm = .none ∧ (∀ (f : Nat) (T : SvT), sv_nth K.2.2.1 f = some T → ∃ v, cell.slots[D.2 K.2.1 f]? = some v ∧ sv_FtOk κ H.size T v) ∧
  ∀ iv ∈ K.2.2.2.1, 0 ≤ iv.1 + sv_ivT D H K.2.1 cell iv.2
def sv_ArOk (AC : Nat → ClassId) (κ : Nat → Nat) (sz : Nat) (K : SvK) (cell : Cell) : Prop :=
  cell.cls = AC K.2.1 ∧ cell.vm = .none ∧ K.2.2.2.2.1 ≤ cell.slots.size ∧ cell.slots.size ≤ K.2.2.2.2.2.1 ∧ ∀ T, sv_nth K.2.2.1 0 = some T → ∀ (i : Nat) (v : Value), cell.slots[i]? = some v → sv_FtOk κ sz T v
def sv_ClOk (D : va_G) (AC : Nat → ClassId) (κ : Nat → Nat) (H : Heap) (K : SvK) (cell : Cell) : Prop :=
  (K.1 = 0 ∧ sv_ObOk D κ H K cell) ∨ (K.1 = 1 ∧ sv_ArOk AC κ H.size K cell)
/-- the FILES that a tree has are there -/
def sv_G1 (D : va_G) (κ : Nat → Nat) (H : Heap) : Prop := ∀ (q a : Nat) (c ca : Cell) (n : Int32), κ q = g_tree → H[q]? = some c → c.slots[D.2 g_treeC g_total]? = some (.int n) → c.slots[D.2 g_treeC g_items]? = some (.ref a) → H[a]? = some ca → ∀ j : Nat, (j : Int) < n.toInt → ∃ b, ca.slots[j]? = some (.ref b)
/-- volumes that are kept are not greater than 256 -/
def sv_G2 (D : va_G) (κ : Nat → Nat) (H : Heap) : Prop := ∀ (q j b : Nat) (c cb : Cell) (n : Int32), κ q = g_vols → H[q]? = some c → c.slots[j]? = some (.ref b) → H[b]? = some cb → cb.slots[D.2 g_volC g_size]? = some (.int n) → n.toInt ≤ 256
/-- from and to of what is opened -/
def sv_G3 (κ : Nat → Nat) (H : Heap) : Prop := ∀ (q j : Nat) (c : Cell) (n : Int32), κ q = g_facts → H[q]? = some c → c.slots[j]? = some (.int n) → (j % 5 = 1 ∨ j % 5 = 2) → 0 ≤ n.toInt ∧ n.toInt ≤ 5000
def sv_G (D : va_G) (κ : Nat → Nat) (H : Heap) : Prop := sv_G1 D κ H ∧ sv_G2 D κ H ∧ sv_G3 κ H
/-- what the kinds that these speak of are -/
def sv_Gk (kd : List SvK) : Bool :=
  (match sv_nth kd g_tree with
    | some k => Nat.beq k.1 0 && Nat.beq k.2.1 g_treeC && (match sv_nth k.2.2.1 g_items with
      | some T => Nat.beq T.1 3 && Nat.beq T.2.2.2.1 g_aitems
      | none => false) && (match sv_nth k.2.2.1 g_total with
      | some T => Nat.beq T.1 1
      | none => false)
    | none => false) && (match sv_nth kd g_aitems with
    | some k => Nat.beq k.1 1 && (match sv_nth k.2.2.1 0 with
      | some T => Nat.beq T.1 3
      | none => false)
    | none => false) && (match sv_nth kd g_vols with
    | some k => Nat.beq k.1 1 && (match sv_nth k.2.2.1 0 with
      | some T => Nat.beq T.1 3 && Nat.beq T.2.2.2.1 g_vol
      | none => false)
    | none => false) && (match sv_nth kd g_vol with
    | some k => Nat.beq k.1 0 && Nat.beq k.2.1 g_volC && (match sv_nth k.2.2.1 g_size with
      | some T => Nat.beq T.1 1
      | none => false)
    | none => false) && (match sv_nth kd g_facts with
    | some k => Nat.beq k.1 1
    | none => false)
def sv_TI (D : va_G) (AC : Nat → ClassId) (kd : List SvK) (B0 : Nat) (κ : Nat → Nat) (H : Heap) : Prop :=
  (∀ q, κ q ≠ 0 → ∃ (K : SvK) (cell : Cell), sv_nth kd (κ q) = some K ∧ H[q]? = some cell ∧ sv_ClOk D AC κ H K cell) ∧
  (∀ (q : Nat) (K : SvK), q < B0 → κ q ≠ 0 → sv_nth kd (κ q) = some K → K.1 = 1 ∧ (K.2.2.2.2.2.2 = true ∨ ∀ cell, H[q]? = some cell → cell.slots.size = 0)) ∧ B0 ≤ H.size ∧ sv_G D κ H
def sv_slots (H : Heap) : Nat := (H.toList.map (·.slots.size)).sum
/-- what a fact says -/
def sv_FI (P : Nat → List Nat → List Int → (Nat → Nat) → Heap → Prop) (D : va_G) (kd : List SvK) (κ : Nat → Nat) (H : Heap) (tag : Nat) (st : List Nat) (vs : List Int) : Prop :=
  match tag, st, vs with
  | 0, _, [x] => 0 ≤ x
  | 1, [K], [a] => K ≠ 0 ∧ (a = -1 ∨ ∃ q : Nat, a = (q : Int) ∧ q < H.size ∧ κ q = K)
  | 2, _, [a, n] => ∀ q : Nat, a = (q : Int) → ∃ cell : Cell, H[q]? = some cell ∧ (cell.slots.size : Int) = n
  | 3, [K, ci, f, t], [a, x] => K ≠ 0 ∧ (∃ k, sv_nth kd K = some k ∧ k.1 = 0 ∧ k.2.1 = ci ∧ f < k.2.2.1.length) ∧ ∀ q : Nat, a = (q : Int) → κ q = K ∧ ∃ (cell : Cell) (v : Value), H[q]? = some cell ∧ cell.slots[D.2 ci f]? = some v ∧ sv_tag v = t ∧ sv_enc v = x
  | 4, [K, t], [a, i, x] => K ≠ 0 ∧ (∃ k, sv_nth kd K = some k ∧ k.1 = 1) ∧ ∀ q j : Nat, a = (q : Int) → i = (j : Int) → κ q = K ∧ ∃ cell : Cell, H[q]? = some cell ∧ (j < cell.slots.size → ∃ v, cell.slots[j]? = some v ∧ sv_tag v = t ∧ sv_enc v = x)
  | 7, _, [x] => (H.size : Int) = x
  | 8, _, [x] => (sv_slots H : Int) = x
  | n + 16, st, vs => P n st vs κ H
  | _, _, _ => False
def sv_FOk (P : Nat → List Nat → List Int → (Nat → Nat) → Heap → Prop) (D : va_G) (kd : List SvK) (κ : Nat → Nat) (H : Heap) (ρ : List Int) (f : SvF) : Prop :=
  ∃ vs, sv_evs ρ f.2.2 = some vs ∧ sv_FI P D kd κ H f.1 f.2.1 vs
def sv_VOk (ρ : List Int) (a : SvA) (v : Value) : Prop := sv_tag v = a.1 ∧ a.1 ≠ 0 ∧ sv_ev ρ a.2 = some (sv_enc v)
def sv_StOk (ρ : List Int) : List SvA → List Value → Prop
  | [], [] => True
  | a :: as, v :: vs => sv_VOk ρ a v ∧ sv_StOk ρ as vs
  | _, _ => False
def sv_LoOk (ρ : List Int) : List (Nat × SvA) → List (Nat × Value) → Prop
  | [], [] => True
  | a :: as, v :: vs => a.1 = v.1 ∧ sv_VOk ρ a.2 v.2 ∧ sv_LoOk ρ as vs
  | _, _ => False
-- a state of the checker: bounds, what the locals hold, the operands, facts
abbrev SvS : Type := List SvB × List (Nat × SvA) × List SvA × List SvF
def sv_Sat (P : Nat → List Nat → List Int → (Nat → Nat) → Heap → Prop) (D : va_G) (kd : List SvK) (κ : Nat → Nat) (H : Heap) (ρ : List Int) (nL : Nat) (ls : Array Slot) (st : List Value) (S : SvS) : Prop :=
  sv_BOk ρ S.1 ∧ (∃ lv, lv_has ls nL lv ∧ sv_LoOk ρ S.2.1 lv) ∧ sv_StOk ρ S.2.2.1 st ∧ ∀ f ∈ S.2.2.2, sv_FOk P D kd κ H ρ f
theorem sv_cut_ok {P : Nat → List Nat → List Int → (Nat → Nat) → Heap → Prop} {D : va_G} {kd : List SvK} {κ : Nat → Nat} {H : Heap} {ρ : List Int} {fs : List SvF} (hf : ∀ f ∈ fs, sv_FOk P D kd κ H ρ f) : ∀ {c : List (Nat × Nat)} {g r : SvL} {x : Int}, sv_ev ρ g = some x → sv_cut fs c g = some r → ∃ y, sv_ev ρ r = some y ∧ y ≤ x
  | [], g, r, x, h1, h2 => by
    simp only [sv_cut, Option.some.injEq] at h2
    subst h2
    exact ⟨x, h1, Int.le_refl _⟩
  | (i, k) :: t, g, r, x, h1, h2 => by
    simp only [sv_cut] at h2
    split at h2
    · rename_i b φ hn
      have hm : ((0, b, [φ]) : SvF) ∈ fs := List.mem_of_getElem? (by rw [← sv_nth_eq]; exact hn)
      obtain ⟨vs, e1, e2⟩ := hf _ hm
      obtain ⟨y, z, q1, q2, rfl⟩ := sv_evs_cons.mp e1
      simp only [sv_evs, Option.some.injEq] at q2
      subst q2
      have e3 : 0 ≤ y := e2
      obtain ⟨u, u1, u2⟩ := sv_cut_ok hf (sv_ev_add (sv_ev_sc (k := Int.neg (Int.ofNat k)) q1) h1) h2
      refine ⟨u, u1, Int.le_trans u2 ?_⟩
      have hm := Int.mul_nonneg (Int.natCast_nonneg k) e3
      show (-(k : Int)) * y + x ≤ x
      rw [Int.neg_mul]
      omega
    · simp at h2
theorem sv_prove_ok {P : Nat → List Nat → List Int → (Nat → Nat) → Heap → Prop} {D : va_G} {kd : List SvK} {κ : Nat → Nat} {H : Heap} {ρ : List Int} {b : List SvB} {fs : List SvF} (hb : sv_BOk ρ b) (hf : ∀ f ∈ fs, sv_FOk P D kd κ H ρ f) {c : List (Nat × Nat)} {g : SvL} {x : Int} (h1 : sv_ev ρ g = some x) (h2 : sv_prove b fs c g = true) : 0 ≤ x := by
  unfold sv_prove at h2
  cases hc : sv_cut fs c g with
  | none => rw [hc] at h2; simp at h2
  | some r =>
    rw [hc] at h2
    obtain ⟨y, y1, y2⟩ := sv_cut_ok hf h1 hc
    cases hl : sv_lb b r with
    | none => simp only [hl] at h2; cases h2
    | some l =>
      simp only [hl] at h2
      have h3 := (sv_ge0_iff l).mp h2
      have h4 := sv_lb_ok hb y1 hl
      omega
