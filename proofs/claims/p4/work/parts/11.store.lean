-- ===== one slot of one cell is written =====
def sv_St (H H' : Heap) (a i : Nat) (cell : Cell) (v : Value) : Prop := H[a]? = some cell ∧ i < cell.slots.size ∧ H'[a]? = some (cell.setSlot i v) ∧ H'.size = H.size ∧ ∀ q : Nat, q ≠ a → H'[q]? = H[q]?
/-- the fields of a kind lie in different slots -/
def sv_Ap (D : va_G) (kd : List SvK) : Prop := ∀ (n : Nat) (K : SvK), sv_nth kd n = some K → K.1 = 0 → ∀ x y, x < K.2.2.1.length → y < K.2.2.1.length → x ≠ y → D.2 K.2.1 x ≠ D.2 K.2.1 y
theorem sv_setSlot_size (c : Cell) (i : Nat) (v : Value) : (c.setSlot i v).slots.size = c.slots.size := by simp [Cell.setSlot]
theorem sv_setSlot_get (c : Cell) (i j : Nat) (v : Value) (h : i < c.slots.size) : (c.setSlot i v).slots[j]? = if i = j then some v else c.slots[j]? := by
  simp only [Cell.setSlot]
  rw [Array.getElem?_setIfInBounds]
  by_cases e : i = j
  · subst e
    simp [h]
  · simp [e]
theorem sv_St_cell {H H' : Heap} {a i : Nat} {cell : Cell} {v : Value} (h : sv_St H H' a i cell v) {q : Nat} {c : Cell} (hc : H[q]? = some c) : ∃ c', H'[q]? = some c' ∧ c'.cls = c.cls ∧ c'.vm = c.vm ∧ c'.slots.size = c.slots.size := by
  obtain ⟨h1, h2, h3, h4, h5⟩ := h
  by_cases hq : q = a
  · subst hq
    rw [h1] at hc
    cases hc
    exact ⟨_, h3, rfl, rfl, sv_setSlot_size _ _ _⟩
  · exact ⟨c, by rw [h5 q hq]; exact hc, rfl, rfl, rfl⟩
theorem sv_St_mv {H H' : Heap} {a i : Nat} {cell : Cell} {v : Value} (h : sv_St H H' a i cell v) (κ : Nat → Nat) : sv_Mv [] κ H κ H' :=
  ⟨Nat.le_of_eq h.2.2.2.1.symm, fun _ _ => Or.inl rfl, fun q c hc => by obtain ⟨c', h1, -, -, h2⟩ := sv_St_cell h hc; exact ⟨c', h1, h2⟩⟩
theorem sv_slots_eq {H H' : Heap} (hz : H'.size = H.size) (h : ∀ (q : Nat) (c : Cell), H[q]? = some c → ∃ c', H'[q]? = some c' ∧ c'.slots.size = c.slots.size) : sv_slots H' = sv_slots H := by
  unfold sv_slots
  congr 1
  refine List.ext_getElem? fun q => ?_
  rw [List.getElem?_map, List.getElem?_map, Array.getElem?_toList, Array.getElem?_toList]
  cases hc : H[q]? with
  | some c =>
    obtain ⟨c', h1, h2⟩ := h q c hc
    rw [h1]
    simp [h2]
  | none =>
    have h1 : H'[q]? = none := by
      rw [Array.getElem?_eq_none_iff] at hc ⊢
      omega
    rw [h1]
theorem sv_St_slots {H H' : Heap} {a i : Nat} {cell : Cell} {v : Value} (h : sv_St H H' a i cell v) : sv_slots H' = sv_slots H :=
  sv_slots_eq h.2.2.2.1 (fun q c hc => by obtain ⟨c', h1, -, -, h2⟩ := sv_St_cell h hc; exact ⟨c', h1, h2⟩)
/-- what may be different of one cell -/
def sv_FrC (D : va_G) (kd : List SvK) (mF mA : List Nat) (k : Nat) (c c' : Cell) : Prop := c'.cls = c.cls ∧ c'.vm = c.vm ∧ c'.slots.size = c.slots.size ∧ (k = 0 → c' = c) ∧
    ∀ K, sv_nth kd k = some K → (K.1 = 0 → ∀ f, f < K.2.2.1.length → 256 * K.2.1 + f ∉ mF → c'.slots[D.2 K.2.1 f]? = c.slots[D.2 K.2.1 f]?) ∧ (K.1 = 1 → k ∉ mA → c'.slots = c.slots)
theorem sv_FrC_rf {D : va_G} {kd : List SvK} {mF mA : List Nat} {k : Nat} {c : Cell} : sv_FrC D kd mF mA k c c := ⟨rfl, rfl, rfl, fun _ => rfl, fun _ _ => ⟨fun _ _ _ _ => rfl, fun _ _ => rfl⟩⟩
theorem sv_FrC_tr {D : va_G} {kd : List SvK} {mF mA : List Nat} {k : Nat} {c c1 c2 : Cell} (h1 : sv_FrC D kd mF mA k c c1) (h2 : sv_FrC D kd mF mA k c1 c2) : sv_FrC D kd mF mA k c c2 :=
  ⟨h2.1.trans h1.1, h2.2.1.trans h1.2.1, h2.2.2.1.trans h1.2.2.1, fun h => (h2.2.2.2.1 h).trans (h1.2.2.2.1 h), fun K hK => ⟨fun h0 f hf hn => ((h2.2.2.2.2 K hK).1 h0 f hf hn).trans ((h1.2.2.2.2 K hK).1 h0 f hf hn), fun h0 hn => ((h2.2.2.2.2 K hK).2 h0 hn).trans ((h1.2.2.2.2 K hK).2 h0 hn)⟩⟩
theorem sv_FrC_wk {D : va_G} {kd : List SvK} {mF mA mF' mA' : List Nat} {k : Nat} {c c1 : Cell} (h : sv_FrC D kd mF mA k c c1) (hF : ∀ x ∈ mF, x ∈ mF') (hA : ∀ x ∈ mA, x ∈ mA') : sv_FrC D kd mF' mA' k c c1 :=
  ⟨h.1, h.2.1, h.2.2.1, h.2.2.2.1, fun K hK => ⟨fun h0 f hf hn => (h.2.2.2.2 K hK).1 h0 f hf (fun q => hn (hF _ q)), fun h0 hn => (h.2.2.2.2 K hK).2 h0 (fun q => hn (hA _ q))⟩⟩
theorem sv_Fr_rf {D : va_G} {kd : List SvK} {mF mA : List Nat} {κ : Nat → Nat} {H : Heap} : sv_Fr D kd mF mA κ H H := fun _ c hc => ⟨c, hc, sv_FrC_rf⟩
/-- a method's frame goes on -/
theorem sv_Fr_tr {D : va_G} {kd : List SvK} {mF mA : List Nat} {κ0 : Nat → Nat} {H0 H H' : Heap} (h1 : sv_Fr D kd mF mA κ0 H0 H) (h2 : ∀ (q : Nat) (c : Cell), q < H0.size → H[q]? = some c → ∃ c', H'[q]? = some c' ∧ sv_FrC D kd mF mA (κ0 q) c c') : sv_Fr D kd mF mA κ0 H0 H' := fun q c hc => by
  obtain ⟨c1, e1, e2⟩ := h1 q c hc
  obtain ⟨c2, e3, e4⟩ := h2 q c1 (sv_lt hc) e1
  exact ⟨c2, e3, sv_FrC_tr e2 e4⟩
theorem sv_St_frF {D : va_G} {kd : List SvK} (hap : sv_Ap D kd) {κ : Nat → Nat} {H H' : Heap} {a f : Nat} {cell : Cell} {v : Value} {K : SvK} (hK : sv_nth kd (κ a) = some K) (h0 : K.1 = 0) (hf : f < K.2.2.1.length) (hk : κ a ≠ 0) (h : sv_St H H' a (D.2 K.2.1 f) cell v) {q : Nat} {c : Cell} (hc : H[q]? = some c) : ∃ c', H'[q]? = some c' ∧ sv_FrC D kd [256 * K.2.1 + f] [] (κ q) c c' := by
  by_cases hq : q = a
  · subst hq
    obtain ⟨h1, h2, h3, h4, h5⟩ := h
    rw [h1] at hc
    cases hc
    refine ⟨_, h3, rfl, rfl, sv_setSlot_size _ _ _, fun e => absurd e hk, fun K' hK' => ?_⟩
    rw [hK] at hK'
    cases hK'
    refine ⟨fun _ f' hf' hn => ?_, fun h1 => by rw [h0] at h1; cases h1⟩
    have hne : f ≠ f' := fun e => hn (by rw [e]; exact List.mem_cons_self)
    rw [sv_setSlot_get _ _ _ _ h2, if_neg (hap _ K hK h0 f f' hf hf' hne)]
  · exact ⟨c, by rw [h.2.2.2.2 q hq]; exact hc, sv_FrC_rf⟩
theorem sv_St_frA {D : va_G} {kd : List SvK} {κ : Nat → Nat} {H H' : Heap} {a i : Nat} {cell : Cell} {v : Value} {K : SvK} (hK : sv_nth kd (κ a) = some K) (h0 : K.1 = 1) (hk : κ a ≠ 0) (h : sv_St H H' a i cell v) {q : Nat} {c : Cell} (hc : H[q]? = some c) : ∃ c', H'[q]? = some c' ∧ sv_FrC D kd [] [κ a] (κ q) c c' := by
  by_cases hq : q = a
  · subst hq
    obtain ⟨h1, h2, h3, h4, h5⟩ := h
    rw [h1] at hc
    cases hc
    refine ⟨_, h3, rfl, rfl, sv_setSlot_size _ _ _, fun e => absurd e hk, fun K' hK' => ?_⟩
    rw [hK] at hK'
    cases hK'
    exact ⟨fun e => absurd (h0.symm.trans e) (by decide), fun _ hn => absurd List.mem_cons_self hn⟩
  · exact ⟨c, by rw [h.2.2.2.2 q hq]; exact hc, sv_FrC_rf⟩
-- ===== what holds of the whole heap =====
section SVG
variable {D : va_G} {AC : Nat → ClassId} {kd : List SvK} {B0 : Nat} {κ : Nat → Nat} {H H' : Heap}
theorem sv_ob_ref (hT : sv_TI D AC kd B0 κ H) {q f a : Nat} {c : Cell} {k : SvK} {T : SvT} (hq : κ q ≠ 0) (hk : sv_nth kd (κ q) = some k) (k0 : k.1 = 0) (hc : H[q]? = some c) (hT0 : sv_nth k.2.2.1 f = some T) (hT3 : T.1 = 3) (hs : c.slots[D.2 k.2.1 f]? = some (.ref a)) : κ a = T.2.2.2.1 ∧ a < H.size := by
  obtain ⟨k', c', e1, e2, e3⟩ := hT.1 q hq
  rw [hk] at e1
  cases e1
  rw [hc] at e2
  cases e2
  rcases e3 with ⟨-, -, -, e4, -⟩ | ⟨e4, -⟩
  · obtain ⟨v, v1, v2⟩ := e4 f T hT0
    rw [hs] at v1
    cases v1
    rcases v2.2.2 hT3 with ⟨v3, -⟩ | ⟨b, v3, v4, v5⟩
    · cases v3
    · cases v3
      exact ⟨v5, v4⟩
  · rw [k0] at e4
    cases e4
theorem sv_ar_ref (hT : sv_TI D AC kd B0 κ H) {q j a : Nat} {c : Cell} {k : SvK} {T : SvT} (hq : κ q ≠ 0) (hk : sv_nth kd (κ q) = some k) (k0 : k.1 = 1) (hc : H[q]? = some c) (hT0 : sv_nth k.2.2.1 0 = some T) (hT3 : T.1 = 3) (hs : c.slots[j]? = some (.ref a)) : κ a = T.2.2.2.1 ∧ a < H.size := by
  obtain ⟨k', c', e1, e2, e3⟩ := hT.1 q hq
  rw [hk] at e1
  cases e1
  rw [hc] at e2
  cases e2
  rcases e3 with ⟨e4, -⟩ | ⟨-, -, -, -, -, e4⟩
  · rw [k0] at e4
    cases e4
  · rcases (e4 T hT0 j _ hs).2.2 hT3 with ⟨v3, -⟩ | ⟨b, v3, v4, v5⟩
    · cases v3
    · cases v3
      exact ⟨v5, v4⟩
theorem sv_kne {q a : Nat} {k k' : SvK} (hk : sv_nth kd (κ q) = some k) (hk' : sv_nth kd (κ a) = some k') (h : k.1 ≠ k'.1) : q ≠ a := fun e => by
  subst e
  rw [hk] at hk'
  cases hk'
  exact h rfl
theorem sv_nl {l : List SvT} {f : Nat} {T : SvT} (h : sv_nth l f = some T) : f < l.length := by
  rw [sv_nth_eq] at h
  exact (List.getElem?_eq_some_iff.mp h).1
/-- what a field's new value asks -/
def sv_Gp (D : va_G) (κ : Nat → Nat) (H : Heap) (a f : Nat) (cell : Cell) (v : Value) : Prop :=
  (κ a = g_tree → f ≠ g_items ∧ (f = g_total → ∀ n, v = .int n → ∀ a' ca, cell.slots[D.2 g_treeC g_items]? = some (.ref a') → H[a']? = some ca → ∀ j : Nat, (j : Int) < n.toInt → ∃ b, ca.slots[j]? = some (.ref b))) ∧ (κ a = g_vol → f ≠ g_size)
theorem sv_G_put (hgk : sv_Gk kd = true) (hap : sv_Ap D kd) (hT : sv_TI D AC kd B0 κ H) {a f : Nat} {cell : Cell} {v : Value} {K : SvK} (hK : sv_nth kd (κ a) = some K) (h0 : K.1 = 0) (hlt : f < K.2.2.1.length) (h : sv_St H H' a (D.2 K.2.1 f) cell v) (hc : sv_Gp D κ H a f cell v) : sv_G D κ H' := by
  obtain ⟨⟨kt, t1, t2, t3, ⟨Ti, i1, i2, i3⟩, Tn, n1, n2⟩, ⟨ka, a1, a2, -⟩, ⟨kv, v1, v2, Tv, v3, v4, v5⟩, ⟨ko, o1, o2, o3, Ts, s1, s2⟩, kf, f1, f2⟩ := sv_Gk_ok hgk
  refine ⟨fun q a' c ca n e1 e2 e3 e4 e5 => ?_, fun q j b c cb n e1 e2 e3 e4 e5 => ?_, fun q j c n e1 e2 e3 => ?_⟩
  · by_cases hq : q = a
    · subst hq
      rw [h.2.2.1] at e2
      cases e2
      rw [e1, t1] at hK
      cases hK
      obtain ⟨c1, c2⟩ := hc.1 e1
      rw [t3] at h e3 e4
      rw [sv_setSlot_get _ _ _ _ h.2.1] at e3 e4
      have d1 := hap _ _ t1 t2 f g_items hlt (sv_nl i1) c1
      rw [t3] at d1
      rw [if_neg d1] at e4
      have r1 := sv_ob_ref hT (by rw [e1]; decide) (by rw [e1]; exact t1) t2 h.1 i1 i2 (by rw [t3]; exact e4)
      have hne : a' ≠ q := sv_kne (κ := κ) (by rw [r1.1, i3]; exact a1) (by rw [e1]; exact t1) (by rw [a2, t2]; decide)
      rw [h.2.2.2.2 a' hne] at e5
      by_cases hf : f = g_total
      · subst hf
        rw [if_pos rfl] at e3
        cases e3
        exact c2 rfl n rfl a' ca e4 e5
      · have d2 := hap _ _ t1 t2 f g_total hlt (sv_nl n1) hf
        rw [t3] at d2
        rw [if_neg d2] at e3
        exact hT.2.2.2.1 q a' cell ca n e1 h.1 e3 e4 e5
    · rw [h.2.2.2.2 q hq] at e2
      have r1 := sv_ob_ref hT (by rw [e1]; decide) (by rw [e1]; exact t1) t2 e2 i1 i2 (by rw [t3]; exact e4)
      have hne : a' ≠ a := sv_kne (κ := κ) (by rw [r1.1, i3]; exact a1) hK (by rw [a2, h0]; decide)
      rw [h.2.2.2.2 a' hne] at e5
      exact hT.2.2.2.1 q a' c ca n e1 e2 e3 e4 e5
  · have hq : q ≠ a := sv_kne (κ := κ) (by rw [e1]; exact v1) hK (by rw [v2, h0]; decide)
    rw [h.2.2.2.2 q hq] at e2
    by_cases hb : b = a
    · subst hb
      have r1 := sv_ar_ref hT (by rw [e1]; decide) (by rw [e1]; exact v1) v2 e2 v3 v4 e3
      have r2 : κ b = g_vol := r1.1.trans v5
      rw [h.2.2.1] at e4
      cases e4
      rw [r2, o1] at hK
      cases hK
      rw [o3] at h e5
      rw [sv_setSlot_get _ _ _ _ h.2.1] at e5
      have d1 := hap _ _ o1 o2 f g_size hlt (sv_nl s1) (hc.2 r2)
      rw [o3] at d1
      rw [if_neg d1] at e5
      exact hT.2.2.2.2.1 q j b c cell n e1 e2 e3 h.1 e5
    · rw [h.2.2.2.2 b hb] at e4
      exact hT.2.2.2.2.1 q j b c cb n e1 e2 e3 e4 e5
  · have hq : q ≠ a := sv_kne (κ := κ) (by rw [e1]; exact f1) hK (by rw [f2, h0]; decide)
    rw [h.2.2.2.2 q hq] at e2
    exact hT.2.2.2.2.2 q j c n e1 e2 e3
/-- what an element's new value asks -/
def sv_Ga (D : va_G) (κ : Nat → Nat) (H : Heap) (a i : Nat) (v : Value) : Prop :=
  (κ a = g_aitems → ∃ b, v = .ref b) ∧ (κ a = g_vols → ∀ b cb n, v = .ref b → H[b]? = some cb → cb.slots[D.2 g_volC g_size]? = some (.int n) → n.toInt ≤ 256) ∧ (κ a = g_facts → (i % 5 = 1 ∨ i % 5 = 2) → ∀ n, v = .int n → 0 ≤ n.toInt ∧ n.toInt ≤ 5000)
theorem sv_G_ast (hgk : sv_Gk kd = true) (hT : sv_TI D AC kd B0 κ H) {a i : Nat} {cell : Cell} {v : Value} {K : SvK} {T : SvT} (hK : sv_nth kd (κ a) = some K) (h0 : K.1 = 1) (hfT : sv_nth K.2.2.1 0 = some T) (hv : sv_FtOk κ H.size T v) (h : sv_St H H' a i cell v) (hc : sv_Ga D κ H a i v) : sv_G D κ H' := by
  obtain ⟨⟨kt, t1, t2, t3, ⟨Ti, i1, i2, i3⟩, Tn, n1, n2⟩, ⟨ka, a1, a2, -⟩, ⟨kv, v1, v2, Tv, v3, v4, v5⟩, ⟨ko, o1, o2, o3, Ts, s1, s2⟩, kf, f1, f2⟩ := sv_Gk_ok hgk
  refine ⟨fun q a' c ca n e1 e2 e3 e4 e5 => ?_, fun q j b c cb n e1 e2 e3 e4 e5 => ?_, fun q j c n e1 e2 e3 => ?_⟩
  · have hq : q ≠ a := sv_kne (κ := κ) (by rw [e1]; exact t1) hK (by rw [t2, h0]; decide)
    rw [h.2.2.2.2 q hq] at e2
    by_cases ha : a' = a
    · subst ha
      have r1 := sv_ob_ref hT (by rw [e1]; decide) (by rw [e1]; exact t1) t2 e2 i1 i2 (by rw [t3]; exact e4)
      rw [h.2.2.1] at e5
      cases e5
      intro j hj
      rw [sv_setSlot_get _ _ _ _ h.2.1]
      by_cases hij : i = j
      · rw [if_pos hij]
        obtain ⟨b, hb⟩ := hc.1 (r1.1.trans i3)
        exact ⟨b, by rw [hb]⟩
      · rw [if_neg hij]
        exact hT.2.2.2.1 q a' c cell n e1 e2 e3 e4 h.1 j hj
    · rw [h.2.2.2.2 a' ha] at e5
      exact hT.2.2.2.1 q a' c ca n e1 e2 e3 e4 e5
  · by_cases hq : q = a
    · subst hq
      rw [h.2.2.1] at e2
      cases e2
      rw [sv_setSlot_get _ _ _ _ h.2.1] at e3
      by_cases hij : i = j
      · rw [if_pos hij] at e3
        cases e3
        rw [e1, v1] at hK
        cases hK
        rw [v3] at hfT
        cases hfT
        have hb : b ≠ q := by
          rcases hv.2.2 v4 with ⟨z, -⟩ | ⟨b', z, z1, z2⟩
          · cases z
          · cases z
            exact sv_kne (κ := κ) (by rw [z2, v5]; exact o1) (by rw [e1]; exact v1) (by rw [o2, v2]; decide)
        rw [h.2.2.2.2 b hb] at e4
        exact hc.2.1 e1 b cb n rfl e4 e5
      · rw [if_neg hij] at e3
        have r1 := sv_ar_ref hT (by rw [e1]; decide) (by rw [e1]; exact v1) v2 h.1 v3 v4 e3
        have hb : b ≠ q := sv_kne (κ := κ) (by rw [r1.1, v5]; exact o1) (by rw [e1]; exact v1) (by rw [o2, v2]; decide)
        rw [h.2.2.2.2 b hb] at e4
        exact hT.2.2.2.2.1 q j b cell cb n e1 h.1 e3 e4 e5
    · rw [h.2.2.2.2 q hq] at e2
      have r1 := sv_ar_ref hT (by rw [e1]; decide) (by rw [e1]; exact v1) v2 e2 v3 v4 e3
      have hb : b ≠ a := sv_kne (κ := κ) (by rw [r1.1, v5]; exact o1) hK (by rw [o2, h0]; decide)
      rw [h.2.2.2.2 b hb] at e4
      exact hT.2.2.2.2.1 q j b c cb n e1 e2 e3 e4 e5
  · by_cases hq : q = a
    · subst hq
      rw [h.2.2.1] at e2
      cases e2
      rw [sv_setSlot_get _ _ _ _ h.2.1] at e3
      intro hj
      by_cases hij : i = j
      · rw [if_pos hij] at e3
        cases e3
        subst hij
        exact hc.2.2 e1 hj n rfl
      · rw [if_neg hij] at e3
        exact hT.2.2.2.2.2 q j cell n e1 h.1 e3 hj
    · rw [h.2.2.2.2 q hq] at e2
      exact hT.2.2.2.2.2 q j c n e1 e2 e3
/-- a cell of an array kind anew, of another kind than these -/
theorem sv_G_aset (hgk : sv_Gk kd = true) (hT : sv_TI D AC kd B0 κ H) {a : Nat} {K : SvK} (hK : sv_nth kd (κ a) = some K) (h0 : K.1 = 1) (ho : ∀ q, q ≠ a → H'[q]? = H[q]?) (hc : κ a ≠ g_aitems ∧ κ a ≠ g_vols ∧ κ a ≠ g_facts) : sv_G D κ H' := by
  obtain ⟨⟨kt, t1, t2, t3, ⟨Ti, i1, i2, i3⟩, Tn, n1, n2⟩, ⟨ka, a1, a2, -⟩, ⟨kv, v1, v2, Tv, v3, v4, v5⟩, ⟨ko, o1, o2, o3, Ts, s1, s2⟩, kf, f1, f2⟩ := sv_Gk_ok hgk
  refine ⟨fun q a' c ca n e1 e2 e3 e4 e5 => ?_, fun q j b c cb n e1 e2 e3 e4 e5 => ?_, fun q j c n e1 e2 e3 => ?_⟩
  · have hq : q ≠ a := sv_kne (κ := κ) (by rw [e1]; exact t1) hK (by rw [t2, h0]; decide)
    rw [ho q hq] at e2
    have r1 := sv_ob_ref hT (by rw [e1]; decide) (by rw [e1]; exact t1) t2 e2 i1 i2 (by rw [t3]; exact e4)
    have ha : a' ≠ a := fun z => hc.1 (by rw [← z]; exact r1.1.trans i3)
    rw [ho a' ha] at e5
    exact hT.2.2.2.1 q a' c ca n e1 e2 e3 e4 e5
  · have hq : q ≠ a := fun z => hc.2.1 (by rw [← z]; exact e1)
    rw [ho q hq] at e2
    have r1 := sv_ar_ref hT (by rw [e1]; decide) (by rw [e1]; exact v1) v2 e2 v3 v4 e3
    have hb : b ≠ a := sv_kne (κ := κ) (by rw [r1.1, v5]; exact o1) hK (by rw [o2, h0]; decide)
    rw [ho b hb] at e4
    exact hT.2.2.2.2.1 q j b c cb n e1 e2 e3 e4 e5
  · have hq : q ≠ a := fun z => hc.2.2 (by rw [← z]; exact e1)
    rw [ho q hq] at e2
    exact hT.2.2.2.2.2 q j c n e1 e2 e3
end SVG
/-- the types of the heap, one cell anew -/
theorem sv_TI_st {D : va_G} {AC : Nat → ClassId} {kd : List SvK} {B0 : Nat} (hiv : sv_ivs kd) {κ : Nat → Nat} {H H' : Heap} {a i : Nat} {cell : Cell} {v : Value} {K : SvK} (hT : sv_TI D AC kd B0 κ H) (hK : sv_nth kd (κ a) = some K) (h : sv_St H H' a i cell v) (hn : sv_ClOk D AC κ H' K (cell.setSlot i v)) (hg : sv_G D κ H') : sv_TI D AC kd B0 κ H' := by
  have hM := sv_St_mv h κ
  obtain ⟨hT, hR, hB, -⟩ := hT
  refine ⟨fun q hq => ?_, fun q K' hq hk hK' => ?_, by rw [h.2.2.2.1]; exact hB, hg⟩
  · obtain ⟨K', c, e1, e2, e3⟩ := hT q hq
    by_cases hqa : q = a
    · subst hqa
      exact ⟨K, _, hK, h.2.2.1, hn⟩
    · exact ⟨K', c, e1, by rw [h.2.2.2.2 q hqa]; exact e2, sv_ClOk_mv hiv hM e1 e3⟩
  · obtain ⟨r1, r2⟩ := hR q K' hq hk hK'
    refine ⟨r1, ?_⟩
    rcases r2 with r2 | r2
    · exact Or.inl r2
    · refine Or.inr fun c hc => ?_
      obtain ⟨K2, c2, e1, e2, e3⟩ := hT q hk
      obtain ⟨c', e4, -, -, e5⟩ := sv_St_cell h e2
      rw [hc] at e4
      cases e4
      rw [e5]
      exact r2 c2 e2
theorem sv_ivT_ne {D : va_G} {κ : Nat → Nat} {H H' : Heap} (hM : sv_Mv [] κ H κ H') {K : SvK} {cell : Cell} {f : Nat} {v : Value} (hap : ∀ x y, x < K.2.2.1.length → y < K.2.2.1.length → x ≠ y → D.2 K.2.1 x ≠ D.2 K.2.1 y) (hf : f < K.2.2.1.length) (hi : D.2 K.2.1 f < cell.slots.size)
    (hfs : ∀ (f : Nat) (T : SvT), sv_nth K.2.2.1 f = some T → ∃ v, cell.slots[D.2 K.2.1 f]? = some v ∧ sv_FtOk κ H.size T v) {t : List (Nat × Int)} (h1 : ∀ x ∈ t, x.1 / 2 < K.2.2.1.length) (h2 : ∀ x ∈ t, x.1 / 2 ≠ f) : sv_ivT D H' K.2.1 (cell.setSlot (D.2 K.2.1 f) v) t = sv_ivT D H K.2.1 cell t :=
  sv_ivT_mv hM hfs h1 (fun x hx => by rw [sv_setSlot_get _ _ _ _ hi, if_neg (hap f _ hf (h1 x hx) (fun e => h2 x hx e.symm))])
theorem sv_TI_put {D : va_G} {AC : Nat → ClassId} {kd : List SvK} {B0 : Nat} (hiv : sv_ivs kd) (hap : sv_Ap D kd) {κ : Nat → Nat} {H H' : Heap} {a f : Nat} {cell : Cell} {v : Value} {K : SvK} {T : SvT} (hT : sv_TI D AC kd B0 κ H) (hk : κ a ≠ 0) (hK : sv_nth kd (κ a) = some K) (h0 : K.1 = 0) (hfT : sv_nth K.2.2.1 f = some T) (hv : sv_FtOk κ H.size T v) (h : sv_St H H' a (D.2 K.2.1 f) cell v)
    (hin : ∀ iv ∈ K.2.2.2.1, (∀ x ∈ iv.2, x.1 / 2 ≠ f) ∨ 0 ≤ iv.1 + sv_ivT D H' K.2.1 (cell.setSlot (D.2 K.2.1 f) v) iv.2) (hgp : sv_Gp D κ H a f cell v) : sv_TI D AC kd B0 κ H' := by
  refine sv_TI_st hiv hT hK h ?_ (sv_G_put hiv.2 hap hT hK h0 (sv_nl hfT) h hgp)
  obtain ⟨K', c, e1, e2, e3⟩ := hT.1 a hk
  rw [hK] at e1
  cases e1
  rw [h.1] at e2
  cases e2
  have hlt : f < K.2.2.1.length := by
    rw [sv_nth_eq] at hfT
    exact (List.getElem?_eq_some_iff.mp hfT).1
  rcases e3 with ⟨-, g1, g2, g3, g4⟩ | ⟨e4, -⟩
  · refine Or.inl ⟨h0, g1, g2, fun f' T' hT' => ?_, fun iv hi => ?_⟩
    · rw [sv_setSlot_get _ _ _ _ h.2.1, h.2.2.2.1]
      by_cases hff : f = f'
      · subst hff
        rw [hfT] at hT'
        cases hT'
        exact ⟨v, if_pos rfl, hv⟩
      · have hlt' : f' < K.2.2.1.length := by
          rw [sv_nth_eq] at hT'
          exact (List.getElem?_eq_some_iff.mp hT').1
        rw [if_neg (hap _ K hK h0 f f' hlt hlt' hff)]
        exact g3 f' T' hT'
    · rcases hin iv hi with h1 | h1
      · rw [sv_ivT_ne (sv_St_mv h κ) (hap _ K hK h0) hlt h.2.1 g3 (hiv.1 _ K hK iv hi) h1]
        exact g4 iv hi
      · exact h1
  · rw [h0] at e4
    cases e4
theorem sv_TI_ast {D : va_G} {AC : Nat → ClassId} {kd : List SvK} {B0 : Nat} (hiv : sv_ivs kd) {κ : Nat → Nat} {H H' : Heap} {a i : Nat} {cell : Cell} {v : Value} {K : SvK} {T : SvT} (hT : sv_TI D AC kd B0 κ H) (hk : κ a ≠ 0) (hK : sv_nth kd (κ a) = some K) (h0 : K.1 = 1) (hfT : sv_nth K.2.2.1 0 = some T) (hv : sv_FtOk κ H.size T v) (h : sv_St H H' a i cell v) (hga : sv_Ga D κ H a i v) : sv_TI D AC kd B0 κ H' := by
  refine sv_TI_st hiv hT hK h ?_ (sv_G_ast hiv.2 hT hK h0 hfT hv h hga)
  obtain ⟨K', c, e1, e2, e3⟩ := hT.1 a hk
  rw [hK] at e1
  cases e1
  rw [h.1] at e2
  cases e2
  rcases e3 with ⟨e4, -⟩ | ⟨-, g1, g2, g3, g4, g5⟩
  · rw [h0] at e4
    cases e4
  · refine Or.inr ⟨h0, g1, g2, by rw [sv_setSlot_size]; exact g3, by rw [sv_setSlot_size]; exact g4, fun T' hT' j u hu => ?_⟩
    rw [hfT] at hT'
    cases hT'
    rw [sv_setSlot_get _ _ _ _ h.2.1] at hu
    rw [h.2.2.2.1]
    by_cases hij : i = j
    · rw [if_pos hij] at hu
      cases hu
      exact hv
    · rw [if_neg hij] at hu
      exact g5 T hfT j u hu
-- ===== a cell more =====
def sv_Nw (H H' : Heap) (c : Cell) : Prop := H'[H.size]? = some c ∧ H'.size = H.size + 1 ∧ ∀ q, q < H.size → H'[q]? = H[q]?
def sv_up (κ : Nat → Nat) (a k : Nat) : Nat → Nat := fun q => if q = a then k else κ q
theorem sv_Nw_mv {H H' : Heap} {c : Cell} (h : sv_Nw H H' c) (κ : Nat → Nat) (k : Nat) : sv_Mv [] κ H (sv_up κ H.size k) H' :=
  ⟨by rw [h.2.1]; omega, fun q hq => Or.inl (if_neg (Nat.ne_of_lt hq)), fun q c' hc => ⟨c', by rw [h.2.2 q (sv_lt hc)]; exact hc, rfl⟩⟩
theorem sv_Nw_slots {H H' : Heap} {c : Cell} (h : sv_Nw H H' c) : sv_slots H' = sv_slots H + c.slots.size := by
  have e : H' = H.push c := by
    refine Array.ext_getElem? fun q => ?_
    rw [Array.getElem?_push]
    by_cases h1 : q = H.size
    · rw [if_pos h1, h1]; exact h.1
    · rw [if_neg h1]
      by_cases h2 : q < H.size
      · exact h.2.2 q h2
      · rw [Array.getElem?_eq_none_iff.mpr (by rw [h.2.1]; omega), Array.getElem?_eq_none_iff.mpr (by omega)]
  unfold sv_slots
  rw [e]
  simp
/-- what a new cell asks -/
def sv_Gn (k : Nat) (c : Cell) : Prop := k ≠ g_tree ∧ (k = g_vols → ∀ (j b : Nat), c.slots[j]? ≠ some (.ref b)) ∧ (k = g_facts → ∀ (j : Nat) (n : Int32), c.slots[j]? = some (.int n) → n.toInt = 0)
theorem sv_G_nw {D : va_G} {AC : Nat → ClassId} {kd : List SvK} {B0 : Nat} (hgk : sv_Gk kd = true) {κ : Nat → Nat} {H H' : Heap} {c : Cell} {k : Nat} (hT : sv_TI D AC kd B0 κ H) (h : sv_Nw H H' c) (hc : sv_Gn k c) : sv_G D (sv_up κ H.size k) H' := by
  obtain ⟨⟨kt, t1, t2, t3, ⟨Ti, i1, i2, i3⟩, Tn, n1, n2⟩, ⟨ka, a1, a2, -⟩, ⟨kv, v1, v2, Tv, v3, v4, v5⟩, ⟨ko, o1, o2, o3, Ts, s1, s2⟩, kf, f1, f2⟩ := sv_Gk_ok hgk
  have hne : ∀ q, q ≠ H.size → sv_up κ H.size k q = κ q := fun q hq => if_neg hq
  have hlt : ∀ {q : Nat} {c0 : Cell}, q ≠ H.size → H'[q]? = some c0 → q < H.size := fun {q c0} hq h0 => by
    have := sv_lt h0
    rw [h.2.1] at this
    omega
  refine ⟨fun q a' c1 ca n e1 e2 e3 e4 e5 => ?_, fun q j b c1 cb n e1 e2 e3 e4 e5 => ?_, fun q j c1 n e1 e2 e3 => ?_⟩
  · by_cases hq : q = H.size
    · subst hq
      rw [show sv_up κ H.size k H.size = k from if_pos rfl] at e1
      exact absurd e1 hc.1
    · rw [hne q hq] at e1
      have l1 := hlt hq e2
      rw [h.2.2 q l1] at e2
      have r1 := sv_ob_ref hT (by rw [e1]; decide) (by rw [e1]; exact t1) t2 e2 i1 i2 (by rw [t3]; exact e4)
      rw [h.2.2 a' r1.2] at e5
      exact hT.2.2.2.1 q a' c1 ca n e1 e2 e3 e4 e5
  · by_cases hq : q = H.size
    · subst hq
      rw [show sv_up κ H.size k H.size = k from if_pos rfl] at e1
      rw [h.1] at e2
      cases e2
      exact absurd e3 (hc.2.1 e1 j b)
    · rw [hne q hq] at e1
      have l1 := hlt hq e2
      rw [h.2.2 q l1] at e2
      have r1 := sv_ar_ref hT (by rw [e1]; decide) (by rw [e1]; exact v1) v2 e2 v3 v4 e3
      rw [h.2.2 b r1.2] at e4
      exact hT.2.2.2.2.1 q j b c1 cb n e1 e2 e3 e4 e5
  · by_cases hq : q = H.size
    · subst hq
      rw [show sv_up κ H.size k H.size = k from if_pos rfl] at e1
      rw [h.1] at e2
      cases e2
      intro _
      rw [hc.2.2 e1 j n e3]
      decide
    · rw [hne q hq] at e1
      rw [h.2.2 q (hlt hq e2)] at e2
      exact hT.2.2.2.2.2 q j c1 n e1 e2 e3
theorem sv_TI_nw {D : va_G} {AC : Nat → ClassId} {kd : List SvK} {B0 : Nat} (hiv : sv_ivs kd) {κ : Nat → Nat} {H H' : Heap} {c : Cell} {k : Nat} {K : SvK} (hT : sv_TI D AC kd B0 κ H) (h : sv_Nw H H' c) (hK : sv_nth kd k = some K) (hc : sv_ClOk D AC (sv_up κ H.size k) H' K c) (hgn : sv_Gn k c) : sv_TI D AC kd B0 (sv_up κ H.size k) H' := by
  have hM := sv_Nw_mv h κ k
  have hg := sv_G_nw hiv.2 hT h hgn
  obtain ⟨hT, hR, hB, -⟩ := hT
  have hne : ∀ q, q ≠ H.size → sv_up κ H.size k q = κ q := fun q hq => if_neg hq
  refine ⟨fun q hq => ?_, fun q K' hq hk hK' => ?_, by rw [h.2.1]; omega, hg⟩
  · by_cases hqa : q = H.size
    · subst hqa
      refine ⟨K, c, ?_, h.1, hc⟩
      rw [show sv_up κ H.size k H.size = k from if_pos rfl]
      exact hK
    · rw [hne q hqa] at hq ⊢
      obtain ⟨K', c', e1, e2, e3⟩ := hT q hq
      exact ⟨K', c', e1, by rw [h.2.2 q (sv_lt e2)]; exact e2, sv_ClOk_mv hiv hM e1 e3⟩
  · have hqa : q ≠ H.size := by omega
    rw [hne q hqa] at hk hK'
    obtain ⟨r1, r2⟩ := hR q K' hq hk hK'
    refine ⟨r1, ?_⟩
    rcases r2 with r2 | r2
    · exact Or.inl r2
    · refine Or.inr fun c' hc' => r2 c' ?_
      rw [← h.2.2 q (by omega)]
      exact hc'
theorem sv_Nw_fr {D : va_G} {kd : List SvK} {mF mA : List Nat} {κ : Nat → Nat} {H H' : Heap} {c : Cell} (h : sv_Nw H H' c) : sv_Fr D kd mF mA κ H H' := fun q c' hc => ⟨c', by rw [h.2.2 q (sv_lt hc)]; exact hc, sv_FrC_rf⟩
