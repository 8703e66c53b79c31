-- ===== what stays when the heap moves =====
/-- the cells of H stand in H', with their lengths; no kind of an old cell has changed but of those that are being made -/
def sv_Mv (rw : List Nat) (κ : Nat → Nat) (H : Heap) (κ' : Nat → Nat) (H' : Heap) : Prop :=
  H.size ≤ H'.size ∧ (∀ q, q < H.size → κ' q = κ q ∨ κ q ∈ rw) ∧ ∀ (q : Nat) (c : Cell), H[q]? = some c → ∃ c' : Cell, H'[q]? = some c' ∧ c'.slots.size = c.slots.size
def sv_dj : List Nat → List Nat → Bool
  | [], _ => true
  | a :: t, l => !(sv_nin a l) && sv_dj t l
/-- whether a fact stays: fields and kinds of arrays written, kinds being made, whether cells have come -/
def sv_kp (sup : Nat → List Nat × List Nat) (mF mA rw : List Nat) (g : Bool) (f : SvF) : Bool := match f.1, f.2.1 with
  | 0, _ => true
  | 1, [K] => !(sv_nin K rw)
  | 2, _ => true
  | 3, [K, ci, fd, _] => !(sv_nin K rw) && !(sv_nin (256 * ci + fd) mF)
  | 4, [K, _] => !(sv_nin K rw) && !(sv_nin K mA)
  | 7, _ => !g
  | 8, _ => !g
  | n + 16, _ => sv_dj (sup n).1 mF && sv_dj (sup n).2 mA && sv_dj (sup n).2 rw
  | _, _ => false
def sv_kps (sup : Nat → List Nat × List Nat) (mF mA rw : List Nat) (g : Bool) : List SvF → List SvF
  | [] => []
  | f :: t => bif sv_kp sup mF mA rw g f then f :: sv_kps sup mF mA rw g t else sv_kps sup mF mA rw g t
def sv_PF (P : Nat → List Nat → List Int → (Nat → Nat) → Heap → Prop) (sup : Nat → List Nat × List Nat) (D : va_G) (kd : List SvK) : Prop :=
  ∀ (n : Nat) (st : List Nat) (vs : List Int) (κ κ' : Nat → Nat) (H H' : Heap) (mF mA rw : List Nat), sv_dj (sup n).1 mF = true → sv_dj (sup n).2 mA = true → sv_dj (sup n).2 rw = true → sv_Fr D kd mF mA κ H H' → sv_Mv rw κ H κ' H' → P n st vs κ H → P n st vs κ' H'
theorem sv_Fr_mv {D : va_G} {kd : List SvK} {mF mA rw : List Nat} {κ κ' : Nat → Nat} {H H' : Heap} (h : sv_Fr D kd mF mA κ H H') (hz : H.size ≤ H'.size) (hk : ∀ q, q < H.size → κ' q = κ q ∨ κ q ∈ rw) : sv_Mv rw κ H κ' H' :=
  ⟨hz, hk, fun q c hc => by obtain ⟨c', h1, -, -, h2, -⟩ := h q c hc; exact ⟨c', h1, h2⟩⟩
theorem sv_lt {H : Heap} {q : Nat} {c : Cell} (h : H[q]? = some c) : q < H.size := (Array.getElem?_eq_some_iff.mp h).1
theorem sv_kp_ok {P : Nat → List Nat → List Int → (Nat → Nat) → Heap → Prop} {sup : Nat → List Nat × List Nat} {D : va_G} {kd : List SvK} (hP : sv_PF P sup D kd) {mF mA rw : List Nat} {g : Bool} {κ κ' : Nat → Nat} {H H' : Heap} (hF : sv_Fr D kd mF mA κ H H') (hM : sv_Mv rw κ H κ' H') (hg : g = false → H'.size = H.size ∧ sv_slots H' = sv_slots H)
    {ρ : List Int} {f : SvF} (h : sv_FOk P D kd κ H ρ f) (hk : sv_kp sup mF mA rw g f = true) : sv_FOk P D kd κ' H' ρ f := by
  obtain ⟨tag, st, es⟩ := f
  obtain ⟨vs, h1, h0⟩ := h
  refine ⟨vs, h1, ?_⟩
  have h2 : sv_FI P D kd κ H tag st vs := h0
  show sv_FI P D kd κ' H' tag st vs
  clear h1 h0
  have hkk : ∀ {q : Nat} {K : Nat}, q < H.size → κ q = K → sv_nin K rw = false → κ' q = K := fun {q K} h3 h4 h5 => by
    rcases hM.2.1 q h3 with h6 | h6
    · rw [h6]; exact h4
    · rw [h4] at h6
      exact absurd h6 (sv_nin_not h5)
  unfold sv_FI at h2
  split at h2
  · exact h2
  · rename_i K a
    obtain ⟨k0, h⟩ := h2
    have hk : (!(sv_nin K rw)) = true := hk
    rw [Bool.not_eq_true'] at hk
    refine ⟨k0, ?_⟩
    rcases h with h | ⟨q, h3, h4, h5⟩
    · exact Or.inl h
    · exact Or.inr ⟨q, h3, Nat.lt_of_lt_of_le h4 hM.1, hkk h4 h5 hk⟩
  · rename_i a n
    intro q h3
    obtain ⟨c0, h4, h5⟩ := h2 q h3
    obtain ⟨c', h6, h7⟩ := hM.2.2 q c0 h4
    exact ⟨c', h6, by rw [h7]; exact h5⟩
  · rename_i K ci f t a x
    have hk : (!(sv_nin K rw) && !(sv_nin (256 * ci + f) mF)) = true := hk
    rw [Bool.and_eq_true, Bool.not_eq_true', Bool.not_eq_true'] at hk
    obtain ⟨k0, ⟨k, g1, g2, g3, g4⟩, h⟩ := h2
    refine ⟨k0, ⟨k, g1, g2, g3, g4⟩, fun q hq => ?_⟩
    obtain ⟨h3, cell, v, h4, h5, h6⟩ := h q hq
    have hlt := sv_lt h4
    obtain ⟨c', f1, f2, f3, f4, f5, f6⟩ := hF q cell h4
    refine ⟨hkk hlt h3 hk.1, c', v, f1, ?_, h6⟩
    have f7 := (f6 k (by rw [h3]; exact g1)).1 g2 f g4 (by rw [g3]; exact sv_nin_not hk.2)
    rw [g3] at f7
    rw [f7]
    exact h5
  · rename_i K t a i x
    have hk : (!(sv_nin K rw) && !(sv_nin K mA)) = true := hk
    rw [Bool.and_eq_true, Bool.not_eq_true', Bool.not_eq_true'] at hk
    obtain ⟨k0, ⟨k, g1, g2⟩, h⟩ := h2
    refine ⟨k0, ⟨k, g1, g2⟩, fun q j hq hj => ?_⟩
    obtain ⟨h3, cell, h4, h5⟩ := h q j hq hj
    obtain ⟨c', f1, f2, f3, f4, f5, f6⟩ := hF q cell h4
    have f7 := (f6 k (by rw [h3]; exact g1)).2 g2 (by rw [h3]; exact sv_nin_not hk.2)
    exact ⟨hkk (sv_lt h4) h3 hk.1, c', f1, by rw [f7]; exact h5⟩
  · rename_i x
    have hk : (!g) = true := hk
    rw [Bool.not_eq_true'] at hk
    have e := (hg hk).1
    show (H'.size : Int) = x
    rw [e]
    exact h2
  · rename_i x
    have hk : (!g) = true := hk
    rw [Bool.not_eq_true'] at hk
    have e := (hg hk).2
    show (sv_slots H' : Int) = x
    rw [e]
    exact h2
  · rename_i n
    have hk : (sv_dj (sup n).1 mF && sv_dj (sup n).2 mA && sv_dj (sup n).2 rw) = true := hk
    rw [Bool.and_eq_true, Bool.and_eq_true] at hk
    exact hP n st vs κ κ' H H' mF mA rw hk.1.1 hk.1.2 hk.2 hF hM h2
  · exact h2.elim
theorem sv_kps_mem {sup : Nat → List Nat × List Nat} {mF mA rw : List Nat} {g : Bool} {f : SvF} : ∀ {fs : List SvF}, f ∈ sv_kps sup mF mA rw g fs → f ∈ fs ∧ sv_kp sup mF mA rw g f = true
  | [], h => by simp [sv_kps] at h
  | a :: t, h => by
    simp only [sv_kps] at h
    cases hk : sv_kp sup mF mA rw g a with
    | true =>
      rw [hk] at h
      simp only [cond_true] at h
      rcases List.mem_cons.mp h with rfl | h
      · exact ⟨List.mem_cons_self, hk⟩
      · exact ⟨List.mem_cons_of_mem _ (sv_kps_mem h).1, (sv_kps_mem h).2⟩
    | false =>
      rw [hk] at h
      simp only [cond_false] at h
      exact ⟨List.mem_cons_of_mem _ (sv_kps_mem h).1, (sv_kps_mem h).2⟩
theorem sv_kps_ok {P : Nat → List Nat → List Int → (Nat → Nat) → Heap → Prop} {sup : Nat → List Nat × List Nat} {D : va_G} {kd : List SvK} (hP : sv_PF P sup D kd) {mF mA rw : List Nat} {g : Bool} {κ κ' : Nat → Nat} {H H' : Heap} (hF : sv_Fr D kd mF mA κ H H') (hM : sv_Mv rw κ H κ' H') (hg : g = false → H'.size = H.size ∧ sv_slots H' = sv_slots H)
    {ρ : List Int} {fs : List SvF} (h : ∀ f ∈ fs, sv_FOk P D kd κ H ρ f) : ∀ f ∈ sv_kps sup mF mA rw g fs, sv_FOk P D kd κ' H' ρ f := fun f hf => by
  obtain ⟨h1, h2⟩ := sv_kps_mem hf
  exact sv_kp_ok hP hF hM hg (h f h1) h2
-- ===== cells under a move =====
theorem sv_FtOk_mv {κ κ' : Nat → Nat} {z z' : Nat} (hz : z ≤ z') (hk : ∀ q, q < z → κ' q = κ q) {T : SvT} {v : Value} (h : sv_FtOk κ z T v) : sv_FtOk κ' z' T v := by
  obtain ⟨h1, h2, h3⟩ := h
  refine ⟨h1, h2, fun ht => ?_⟩
  rcases h3 ht with h4 | ⟨a, h4, h5, h6⟩
  · exact Or.inl h4
  · exact Or.inr ⟨a, h4, Nat.lt_of_lt_of_le h5 hz, by rw [hk a h5]; exact h6⟩
/-- rows of a kind speak of its own fields -/
def sv_ivs (kd : List SvK) : Prop := (∀ (n : Nat) (K : SvK), sv_nth kd n = some K → ∀ iv ∈ K.2.2.2.1, ∀ x ∈ iv.2, x.1 / 2 < K.2.2.1.length) ∧ sv_Gk kd = true
theorem sv_Gk_ok {kd : List SvK} (h : sv_Gk kd = true) : (∃ k, sv_nth kd g_tree = some k ∧ k.1 = 0 ∧ k.2.1 = g_treeC ∧ (∃ T, sv_nth k.2.2.1 g_items = some T ∧ T.1 = 3 ∧ T.2.2.2.1 = g_aitems) ∧ ∃ T, sv_nth k.2.2.1 g_total = some T ∧ T.1 = 1) ∧ (∃ k, sv_nth kd g_aitems = some k ∧ k.1 = 1 ∧ ∃ T, sv_nth k.2.2.1 0 = some T ∧ T.1 = 3) ∧ (∃ k, sv_nth kd g_vols = some k ∧ k.1 = 1 ∧ ∃ T, sv_nth k.2.2.1 0 = some T ∧ T.1 = 3 ∧ T.2.2.2.1 = g_vol) ∧
    (∃ k, sv_nth kd g_vol = some k ∧ k.1 = 0 ∧ k.2.1 = g_volC ∧ ∃ T, sv_nth k.2.2.1 g_size = some T ∧ T.1 = 1) ∧ ∃ k, sv_nth kd g_facts = some k ∧ k.1 = 1 := by
  unfold sv_Gk at h
  simp only [Bool.and_eq_true] at h
  obtain ⟨⟨⟨⟨h1, h2⟩, h3⟩, h4⟩, h5⟩ := h
  refine ⟨?_, ?_, ?_, ?_, ?_⟩
  · split at h1
    · rename_i k hk
      simp only [Bool.and_eq_true] at h1
      obtain ⟨⟨⟨a1, a2⟩, a3⟩, a4⟩ := h1
      refine ⟨k, hk, Nat.eq_of_beq_eq_true a1, Nat.eq_of_beq_eq_true a2, ?_, ?_⟩
      · split at a3
        · rename_i T hT
          rw [Bool.and_eq_true] at a3
          exact ⟨T, hT, Nat.eq_of_beq_eq_true a3.1, Nat.eq_of_beq_eq_true a3.2⟩
        · cases a3
      · split at a4
        · rename_i T hT
          exact ⟨T, hT, Nat.eq_of_beq_eq_true a4⟩
        · cases a4
    · cases h1
  · split at h2
    · rename_i k hk
      rw [Bool.and_eq_true] at h2
      refine ⟨k, hk, Nat.eq_of_beq_eq_true h2.1, ?_⟩
      have a3 := h2.2
      split at a3
      · rename_i T hT
        exact ⟨T, hT, Nat.eq_of_beq_eq_true a3⟩
      · cases a3
    · cases h2
  · split at h3
    · rename_i k hk
      rw [Bool.and_eq_true] at h3
      refine ⟨k, hk, Nat.eq_of_beq_eq_true h3.1, ?_⟩
      have a3 := h3.2
      split at a3
      · rename_i T hT
        rw [Bool.and_eq_true] at a3
        exact ⟨T, hT, Nat.eq_of_beq_eq_true a3.1, Nat.eq_of_beq_eq_true a3.2⟩
      · cases a3
    · cases h3
  · split at h4
    · rename_i k hk
      simp only [Bool.and_eq_true] at h4
      refine ⟨k, hk, Nat.eq_of_beq_eq_true h4.1.1, Nat.eq_of_beq_eq_true h4.1.2, ?_⟩
      have a3 := h4.2
      split at a3
      · rename_i T hT
        exact ⟨T, hT, Nat.eq_of_beq_eq_true a3⟩
      · cases a3
    · cases h4
  · split at h5
    · rename_i k hk
      exact ⟨k, hk, Nat.eq_of_beq_eq_true h5⟩
    · cases h5
theorem sv_cv_mv {D : va_G} {κ κ' : Nat → Nat} {H H' : Heap} (hM : sv_Mv [] κ H κ' H') {K : SvK} {cell cell' : Cell} {u : Nat} (hu : u / 2 < K.2.2.1.length)
    (hf : ∀ (f : Nat) (T : SvT), sv_nth K.2.2.1 f = some T → ∃ v, cell.slots[D.2 K.2.1 f]? = some v ∧ sv_FtOk κ H.size T v) (hs : cell'.slots[D.2 K.2.1 (u / 2)]? = cell.slots[D.2 K.2.1 (u / 2)]?) : sv_cv D H' K.2.1 cell' u = sv_cv D H K.2.1 cell u := by
  unfold sv_cv
  rw [hs]
  obtain ⟨T, hT⟩ : ∃ T, sv_nth K.2.2.1 (u / 2) = some T := ⟨K.2.2.1[u / 2], by rw [sv_nth_eq]; exact List.getElem?_eq_getElem hu⟩
  obtain ⟨v, h1, h2, -, h3⟩ := hf _ T hT
  rw [h1]
  dsimp only
  by_cases h0 : u % 2 = 0
  · rw [if_pos h0, if_pos h0]
  · rw [if_neg h0, if_neg h0]
    cases v with
    | ref a =>
      have ht : T.1 = 3 := h2.symm
      rcases h3 ht with ⟨h4, -⟩ | ⟨b, h4, h5, -⟩
      · cases h4
      · cases h4
        obtain ⟨c', h6, h7⟩ := hM.2.2 a H[a] (Array.getElem?_eq_getElem h5)
        dsimp only
        rw [h6, Array.getElem?_eq_getElem h5]
        dsimp only
        rw [h7]
    | _ => rfl
theorem sv_ivT_mv {D : va_G} {κ κ' : Nat → Nat} {H H' : Heap} (hM : sv_Mv [] κ H κ' H') {K : SvK} {cell cell' : Cell}
    (hf : ∀ (f : Nat) (T : SvT), sv_nth K.2.2.1 f = some T → ∃ v, cell.slots[D.2 K.2.1 f]? = some v ∧ sv_FtOk κ H.size T v) : ∀ {t : List (Nat × Int)}, (∀ x ∈ t, x.1 / 2 < K.2.2.1.length) → (∀ x ∈ t, cell'.slots[D.2 K.2.1 (x.1 / 2)]? = cell.slots[D.2 K.2.1 (x.1 / 2)]?) → sv_ivT D H' K.2.1 cell' t = sv_ivT D H K.2.1 cell t
  | [], _, _ => rfl
  | (u, c) :: t, h1, h2 => by
    simp only [sv_ivT]
    rw [sv_cv_mv hM (h1 _ List.mem_cons_self) hf (h2 _ List.mem_cons_self), sv_ivT_mv hM hf (fun x hx => h1 x (List.mem_cons_of_mem _ hx)) (fun x hx => h2 x (List.mem_cons_of_mem _ hx))]
theorem sv_ClOk_mv {D : va_G} {AC : Nat → ClassId} {kd : List SvK} (hiv : sv_ivs kd) {κ κ' : Nat → Nat} {H H' : Heap} (hM : sv_Mv [] κ H κ' H') {n : Nat} {K : SvK} (hK : sv_nth kd n = some K) {cell : Cell} (h : sv_ClOk D AC κ H K cell) : sv_ClOk D AC κ' H' K cell := by
  have hk : ∀ q, q < H.size → κ' q = κ q := fun q hq => by
    rcases hM.2.1 q hq with h1 | h1
    · exact h1
    · cases h1
  rcases h with ⟨h0, h1, h2, h3, h4⟩ | ⟨h0, h1, h2, h3, h4, h5⟩
  · refine Or.inl ⟨h0, h1, h2, fun f T hT => ?_, fun iv hi => ?_⟩
    · obtain ⟨v, h5, h6⟩ := h3 f T hT
      exact ⟨v, h5, sv_FtOk_mv hM.1 hk h6⟩
    · rw [sv_ivT_mv hM h3 (hiv.1 n K hK iv hi) (fun _ _ => rfl)]
      exact h4 iv hi
  · exact Or.inr ⟨h0, h1, h2, h3, h4, fun T hT i v hv => sv_FtOk_mv hM.1 hk (h5 T hT i v hv)⟩
