-- ===== facts of what arrays hold =====
/-- element i of the array at a, as a whole number; 0 where there is none -/
def sv_at (H : Heap) (a i : Int) : Int := if i < 0 ∨ a < 0 then 0 else match H[a.toNat]? with
  | some c => (match c.slots[i.toNat]? with
    | some v => sv_enc v
    | none => 0)
  | none => 0
/-- the first numbers are addresses of cells of these kinds -/
def sv_ad (κ : Nat → Nat) (z : Nat) : List Nat → List Int → Prop
  | [], _ => True
  | K :: ks, a :: vs => (K ≠ 0 ∧ ∃ q : Nat, a = (q : Int) ∧ q < z ∧ κ q = K) ∧ sv_ad κ z ks vs
  | _ :: _, [] => False
/-- what the arrays hold -/
def sv_gs (g : Int → Int → Int) : List Nat → List Int → List (Int → Int)
  | _ :: ks, a :: vs => g a :: sv_gs g ks vs
  | _, _ => []
/-- opaque fact n: kinds of its arrays (Ks), what it says of their elements and of further numbers (Q) -/
def sv_P (Ks : Nat → List Nat) (Q : Nat → List (Int → Int) → List Int → Prop) (n : Nat) (_ : List Nat) (vs : List Int) (κ : Nat → Nat) (H : Heap) : Prop :=
  sv_ad κ H.size (Ks n) vs ∧ Q n (sv_gs (sv_at H) (Ks n) vs) (vs.drop (Ks n).length)
def sv_psup (Ks : Nat → List Nat) : Nat → List Nat × List Nat := fun n => ([], Ks n)
theorem sv_dj_mem {r : List Nat} : ∀ {l : List Nat}, sv_dj l r = true → ∀ K ∈ l, sv_nin K r = false
  | [], _, K, h => by cases h
  | a :: t, h, K, hK => by
    simp only [sv_dj, Bool.and_eq_true, Bool.not_eq_true'] at h
    rcases List.mem_cons.mp hK with rfl | hK
    · exact h.1
    · exact sv_dj_mem h.2 K hK
section SVPR
variable {Ks : Nat → List Nat} {Q : Nat → List (Int → Int) → List Int → Prop} {D : va_G} {AC : Nat → ClassId} {kd : List SvK} {B0 : Nat}
theorem sv_at_eq {H H' : Heap} {q : Nat} {c c' : Cell} (h : H[q]? = some c) (h' : H'[q]? = some c') (hs : c'.slots = c.slots) : sv_at H' (q : Int) = sv_at H (q : Int) := by
  funext i
  unfold sv_at
  rw [Int.toNat_natCast, h, h']
  simp only [hs]
theorem sv_ad_mv {mF mA rw : List Nat} {κ κ' : Nat → Nat} {H H' : Heap} (hF : sv_Fr D kd mF mA κ H H') (hM : sv_Mv rw κ H κ' H') : ∀ {ks : List Nat} {ws : List Int}, (∀ K ∈ ks, sv_nin K mA = false ∧ sv_nin K rw = false ∧ ∃ k, sv_nth kd K = some k ∧ k.1 = 1) → sv_ad κ H.size ks ws → sv_ad κ' H'.size ks ws ∧ sv_gs (sv_at H') ks ws = sv_gs (sv_at H) ks ws
  | [], ws, _, _ => ⟨trivial, by simp only [sv_gs]⟩
  | K :: ks, [], _, ha => ha.elim
  | K :: ks, a :: ws, hk, ha => by
    obtain ⟨⟨k0, q, rfl, hq, hκ⟩, ha⟩ := ha
    obtain ⟨i1, i2⟩ := sv_ad_mv hF hM (fun K' hK' => hk K' (List.mem_cons_of_mem _ hK')) ha
    obtain ⟨j1, j2, k, j3, j4⟩ := hk K List.mem_cons_self
    have hc : H[q]? = some H[q] := Array.getElem?_eq_getElem hq
    obtain ⟨c', f1, f2, f3, f4, f5, f6⟩ := hF q _ hc
    have f7 := (f6 k (by rw [hκ]; exact j3)).2 j4 (by rw [hκ]; exact sv_nin_not j1)
    have hκ' : κ' q = K := by
      rcases hM.2.1 q hq with h6 | h6
      · rw [h6]; exact hκ
      · rw [hκ] at h6
        exact absurd h6 (sv_nin_not j2)
    refine ⟨⟨⟨k0, q, rfl, Nat.lt_of_lt_of_le hq hM.1, hκ'⟩, i1⟩, ?_⟩
    simp only [sv_gs]
    rw [i2, sv_at_eq hc f1 f7]
theorem sv_P_ok (hA : ∀ n, ∀ K ∈ Ks n, ∃ k, sv_nth kd K = some k ∧ k.1 = 1) : sv_PF (sv_P Ks Q) (sv_psup Ks) D kd := by
  intro n st vs κ κ' H H' mF mA rw _ h2 h3 hF hM hP
  obtain ⟨p1, p2⟩ := hP
  obtain ⟨i1, i2⟩ := sv_ad_mv hF hM (fun K hK => ⟨sv_dj_mem h2 K hK, sv_dj_mem h3 K hK, hA n K hK⟩) p1
  refine ⟨i1, ?_⟩
  have i3 : sv_gs (sv_at H') (Ks n) vs = sv_gs (sv_at H) (Ks n) vs := i2
  rw [i3]
  exact p2
/-- what the arrays hold after a store -/
theorem sv_at_st {H H' : Heap} {q j : Nat} {cell : Cell} {v : Value} (h : sv_St H H' q j cell v) {a i : Int} (ha : 0 ≤ a) (hi : 0 ≤ i) : sv_at H' a i = if a = (q : Int) ∧ i = (j : Int) then sv_enc v else sv_at H a i := by
  obtain ⟨h1, h2, h3, h4, h5⟩ := h
  have hn : ¬ (i < 0 ∨ a < 0) := by omega
  by_cases e : a = (q : Int)
  · subst e
    unfold sv_at
    rw [Int.toNat_natCast, h1, h3]
    simp only [if_neg hn]
    rw [sv_setSlot_get _ _ _ _ h2]
    by_cases e2 : i = (j : Int)
    · subst e2
      simp
    · have e3 : ¬ j = i.toNat := by omega
      rw [if_neg e3, if_neg (by rintro ⟨-, e4⟩; exact e2 e4)]
  · rw [if_neg (by rintro ⟨e4, -⟩; exact e e4)]
    unfold sv_at
    rw [h5 a.toNat (by omega)]
theorem sv_at_neg {H : Heap} {a i : Int} (hi : i < 0 ∨ a < 0) : sv_at H a i = 0 := by
  unfold sv_at
  rw [if_pos hi]
def sv_put (g : Int → Int → Int) (a i x : Int) : Int → Int → Int := fun b k => if b = a ∧ k = i then x else g b k
theorem sv_at_put {H H' : Heap} {q j : Nat} {cell : Cell} {v : Value} (h : sv_St H H' q j cell v) : sv_at H' = sv_put (sv_at H) (q : Int) (j : Int) (sv_enc v) := by
  funext b k
  unfold sv_put
  by_cases hn : k < 0 ∨ b < 0
  · rw [sv_at_neg hn, sv_at_neg hn, if_neg (by rintro ⟨e1, e2⟩; omega)]
  · exact sv_at_st h (by omega) (by omega)
/-- what a fact of an element says of what the array holds -/
theorem sv_at_el {P : Nat → List Nat → List Int → (Nat → Nat) → Heap → Prop} {κ : Nat → Nat} {H : Heap} {K t : Nat} {q : Nat} {i x n : Int} (h : sv_FI P D kd κ H 4 [K, t] [(q : Int), i, x]) (hl : sv_FI P D kd κ H 2 [] [(q : Int), n]) (h0 : 0 ≤ i) (h1 : i < n) : sv_at H (q : Int) i = x := by
  obtain ⟨-, -, h2⟩ := h
  obtain ⟨-, cell, h3, h4⟩ := h2 q i.toNat rfl (by omega)
  obtain ⟨cell', h5, h6⟩ := hl q rfl
  rw [h3] at h5
  cases h5
  obtain ⟨v, h7, -, h8⟩ := h4 (by omega)
  unfold sv_at
  rw [if_neg (by omega), Int.toNat_natCast, h3]
  simp only [h7]
  exact h8
/-- how long an array is -/
def sv_ln (H : Heap) (a : Int) : Int := if a < 0 then 0 else match H[a.toNat]? with
  | some c => (c.slots.size : Int)
  | none => 0
def sv_adq (kf : Int → Nat) : List Nat → List Int → Prop
  | [], _ => True
  | K :: ks, a :: vs => (0 ≤ a ∧ kf a = K) ∧ sv_adq kf ks vs
  | _ :: _, [] => False
/-- what a fact says, of elements, lengths and kinds alone -/
def sv_FQ (Ks : Nat → List Nat) (Q : Nat → List (Int → Int) → List Int → Prop) (g : Int → Int → Int) (ln : Int → Int) (kf : Int → Nat) (tag : Nat) (st : List Nat) (vs : List Int) : Prop :=
  match tag, st, vs with
  | 0, _, [x] => 0 ≤ x
  | 1, [K], [a] => a = -1 ∨ (0 ≤ a ∧ kf a = K)
  | 2, _, [a, n] => 0 ≤ a → ln a = n
  | 4, [_, _], [a, i, x] => 0 ≤ a → 0 ≤ i → i < ln a → g a i = x
  | n + 16, _, vs => sv_adq kf (Ks n) vs ∧ Q n (sv_gs g (Ks n) vs) (vs.drop (Ks n).length)
  | _, _, _ => False
def sv_FQk (Ks : Nat → List Nat) (Q : Nat → List (Int → Int) → List Int → Prop) (g : Int → Int → Int) (ln : Int → Int) (kf : Int → Nat) (ρ : List Int) (f : SvF) : Prop :=
  ∃ vs, sv_evs ρ f.2.2 = some vs ∧ sv_FQ Ks Q g ln kf f.1 f.2.1 vs
theorem sv_ad_q {κ : Nat → Nat} {z : Nat} : ∀ {ks : List Nat} {vs : List Int}, sv_ad κ z ks vs → sv_adq (fun a => κ a.toNat) ks vs
  | [], _, _ => trivial
  | _ :: _, [], h => h.elim
  | K :: ks, a :: vs, h => by
    obtain ⟨⟨k0, q, rfl, hq, hκ⟩, h⟩ := h
    exact ⟨⟨Int.natCast_nonneg q, by show κ ((q : Int)).toNat = K; rw [Int.toNat_natCast]; exact hκ⟩, sv_ad_q h⟩
theorem sv_q_ad {κ : Nat → Nat} {z : Nat} (hz : ∀ q, κ q ≠ 0 → q < z) : ∀ {ks : List Nat} {vs : List Int}, (∀ K ∈ ks, K ≠ 0) → sv_adq (fun a => κ a.toNat) ks vs → sv_ad κ z ks vs
  | [], _, _, _ => trivial
  | _ :: _, [], _, h => h.elim
  | K :: ks, a :: vs, h0, h => by
    obtain ⟨⟨h1, h2⟩, h3⟩ := h
    have k0 : K ≠ 0 := h0 K List.mem_cons_self
    refine ⟨⟨k0, a.toNat, (Int.toNat_of_nonneg h1).symm, hz _ (by have h4 : κ a.toNat = K := h2; rw [h4]; exact k0), h2⟩, sv_q_ad hz (fun K' hK' => h0 K' (List.mem_cons_of_mem _ hK')) h3⟩
/-- a fact of a law's: what it asks -/
def sv_tgh (f : SvF) : Bool := match f.1 with
  | 0 => true
  | 1 => true
  | 2 => true
  | 4 => true
  | _ + 16 => true
  | _ => false
/-- what it gives -/
def sv_tgg (f : SvF) : Bool := match f.1 with
  | 0 => true
  | _ + 16 => true
  | _ => false
theorem sv_FQ_of {κ : Nat → Nat} {H : Heap} {ρ : List Int} {f : SvF} (ht : sv_tgh f = true) (h : sv_FOk (sv_P Ks Q) D kd κ H ρ f) : sv_FQk Ks Q (sv_at H) (sv_ln H) (fun a => κ a.toNat) ρ f := by
  obtain ⟨tag, st, es⟩ := f
  obtain ⟨vs, h1, h0⟩ := h
  refine ⟨vs, h1, ?_⟩
  have h2 : sv_FI (sv_P Ks Q) D kd κ H tag st vs := h0
  show sv_FQ Ks Q (sv_at H) (sv_ln H) (fun a => κ a.toNat) tag st vs
  clear h1 h0
  unfold sv_FI at h2
  split at h2
  · exact h2
  · rename_i K a
    obtain ⟨-, h⟩ := h2
    rcases h with h | ⟨q, rfl, -, h4⟩
    · exact Or.inl h
    · exact Or.inr ⟨Int.natCast_nonneg q, by show κ ((q : Int)).toNat = K; rw [Int.toNat_natCast]; exact h4⟩
  · rename_i a n
    intro ha
    obtain ⟨cell, h3, h4⟩ := h2 a.toNat (Int.toNat_of_nonneg ha).symm
    unfold sv_ln
    rw [if_neg (by omega), h3]
    exact h4
  · cases ht
  · rename_i K t a i x
    intro ha hi hl
    obtain ⟨-, -, h⟩ := h2
    obtain ⟨-, cell, h3, h4⟩ := h a.toNat i.toNat (Int.toNat_of_nonneg ha).symm (Int.toNat_of_nonneg hi).symm
    unfold sv_ln at hl
    rw [if_neg (by omega), h3] at hl
    have hl : i < (cell.slots.size : Int) := hl
    obtain ⟨v, h7, -, h8⟩ := h4 (by omega)
    unfold sv_at
    rw [if_neg (by omega), h3]
    simp only [h7]
    exact h8
  · cases ht
  · cases ht
  · exact ⟨sv_ad_q h2.1, h2.2⟩
  · exact h2.elim
theorem sv_of_FQ {κ : Nat → Nat} {H : Heap} {ρ : List Int} {f : SvF} (hz : ∀ q, κ q ≠ 0 → q < H.size) (h0 : ∀ n, ∀ K ∈ Ks n, K ≠ 0) (ht : sv_tgg f = true) (h : sv_FQk Ks Q (sv_at H) (sv_ln H) (fun a => κ a.toNat) ρ f) : sv_FOk (sv_P Ks Q) D kd κ H ρ f := by
  obtain ⟨tag, st, es⟩ := f
  obtain ⟨vs, h1, h2⟩ := h
  refine ⟨vs, h1, ?_⟩
  have h2 : sv_FQ Ks Q (sv_at H) (sv_ln H) (fun a => κ a.toNat) tag st vs := h2
  show sv_FI (sv_P Ks Q) D kd κ H tag st vs
  clear h1
  unfold sv_FQ at h2
  split at h2
  · exact h2
  · cases ht
  · cases ht
  · cases ht
  · exact ⟨sv_q_ad hz (h0 _) h2.1, h2.2⟩
  · exact h2.elim
/-- laws are shown of elements, lengths and kinds alone -/
theorem sv_pure (h0 : ∀ n, ∀ K ∈ Ks n, K ≠ 0) {L : List SvM} (h1 : ∀ m ∈ L, ∀ f ∈ m.2.1, sv_tgh f = true) (h2 : ∀ m ∈ L, ∀ f ∈ m.2.2, sv_tgg f = true)
    (h : ∀ m ∈ L, ∀ (g : Int → Int → Int) (ln : Int → Int) (kf : Int → Nat) (ρ : List Int), sv_BOk ρ m.1 → (∀ f ∈ m.2.1, sv_FQk Ks Q g ln kf ρ f) → ∀ f ∈ m.2.2, sv_FQk Ks Q g ln kf ρ f) : sv_LmOk (sv_P Ks Q) D AC kd B0 L := by
  intro m hm κ H ρ hT hb hf f hfm
  refine sv_of_FQ (fun q hq => ?_) h0 (h2 m hm f hfm) (h m hm _ _ _ ρ hb (fun f' hf' => sv_FQ_of (h1 m hm f' hf') (hf f' hf')) f hfm)
  obtain ⟨K, cell, -, hc, -⟩ := hT.1 q hq
  exact sv_lt hc
theorem sv_ln_st {H H' : Heap} {q j : Nat} {cell : Cell} {v : Value} (h : sv_St H H' q j cell v) : sv_ln H' = sv_ln H := by
  funext a
  unfold sv_ln
  by_cases hn : a < 0
  · rw [if_pos hn, if_pos hn]
  · rw [if_neg hn, if_neg hn]
    cases hc : H[a.toNat]? with
    | none =>
      have e : ¬ a.toNat = q := fun e => by rw [e, h.1] at hc; cases hc
      rw [h.2.2.2.2 a.toNat e, hc]
    | some c =>
      obtain ⟨c', e1, -, -, e2⟩ := sv_St_cell h hc
      rw [e1]
      simp only [e2]
/-- laws of stores too: numbers 0, 1, 2 are the array, the place, what is stored -/
theorem sv_pures (h0 : ∀ n, ∀ K ∈ Ks n, K ≠ 0) {M : List (Nat × SvM)} (h1 : ∀ m ∈ M, ∀ f ∈ m.2.2.1, sv_tgh f = true) (h2 : ∀ m ∈ M, ∀ f ∈ m.2.2.2, sv_tgg f = true)
    (h : ∀ m ∈ M, ∀ (g : Int → Int → Int) (ln : Int → Int) (kf : Int → Nat) (ρ : List Int) (a i x : Int), sv_BOk ρ m.2.1 → (∀ f ∈ m.2.2.1, sv_FQk Ks Q g ln kf ρ f) → sv_nth ρ 0 = some a → sv_nth ρ 1 = some i → sv_nth ρ 2 = some x → 0 ≤ a → 0 ≤ i → i < ln a → kf a = m.1 → ∀ f ∈ m.2.2.2, sv_FQk Ks Q (sv_put g a i x) ln kf ρ f) : sv_SmOk (sv_P Ks Q) D AC kd B0 M := by
  intro m hm κ H H' ρ q j cell v hT hb hf hq hj hv hκ hk0 hst f hfm
  have hl : (j : Int) < sv_ln H (q : Int) := by
    unfold sv_ln
    rw [if_neg (by omega), Int.toNat_natCast, hst.1]
    show (j : Int) < (cell.slots.size : Int)
    have := hst.2.1
    omega
  have key := h m hm (sv_at H) (sv_ln H) (fun a => κ a.toNat) ρ (q : Int) (j : Int) (sv_enc v) hb (fun f' hf' => sv_FQ_of (h1 m hm f' hf') (hf f' hf')) hq hj hv (Int.natCast_nonneg q) (Int.natCast_nonneg j) hl (by show κ (q : Int).toNat = m.1; rw [Int.toNat_natCast]; exact hκ) f hfm
  rw [← sv_at_put hst, ← sv_ln_st hst] at key
  refine sv_of_FQ (fun q' hq' => ?_) h0 (h2 m hm f hfm) key
  obtain ⟨K, cell', -, hc, -⟩ := hT.1 q' hq'
  rw [hst.2.2.2.1]
  exact sv_lt hc
end SVPR
