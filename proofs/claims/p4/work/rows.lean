section
-- ===== numbers of kinds and fields =====
def g_tree : Nat := 12
def g_treeC : Nat := 11
def g_total : Nat := 5
def g_items : Nat := 4
def g_aitems : Nat := 173
def g_vols : Nat := 32
def g_vol : Nat := 13
def g_volC : Nat := 12
def g_size : Nat := 1
def g_facts : Nat := 160
end
section
/-! A small checker of its own: linear forms over ghost numbers, bounds, facts. All is structural, so that the kernel counts it. -/
abbrev SvL : Type := Int × List (Nat × Int)
abbrev SvA : Type := Nat × SvL
abbrev SvF : Type := Nat × List Nat × List SvL
abbrev SvB : Type := Int × Option Int
def sv_nth {α : Type} : List α → Nat → Option α
  | [], _ => none
  | a :: _, 0 => some a
  | _ :: t, n + 1 => sv_nth t n
def sv_ge0 : Int → Bool
  | .ofNat _ => true
  | .negSucc _ => false
def sv_iz : Int → Bool
  | .ofNat n => Nat.beq n 0
  | .negSucc _ => false
def sv_le (a b : Int) : Bool := sv_ge0 (Int.sub b a)
def sv_evT (ρ : List Int) : List (Nat × Int) → Option Int
  | [] => some 0
  | (v, c) :: t => match sv_nth ρ v with
    | some x => match sv_evT ρ t with
      | some y => some (c * x + y)
      | none => none
    | none => none
def sv_ev (ρ : List Int) (e : SvL) : Option Int := match sv_evT ρ e.2 with
  | some y => some (e.1 + y)
  | none => none
def sv_evs (ρ : List Int) : List SvL → Option (List Int)
  | [] => some []
  | e :: t => match sv_ev ρ e with
    | some x => match sv_evs ρ t with
      | some xs => some (x :: xs)
      | none => none
    | none => none
def sv_ins (v : Nat) (c : Int) : List (Nat × Int) → List (Nat × Int)
  | [] => bif sv_iz c then [] else [(v, c)]
  | (w, d) :: t => bif Nat.beq v w then (bif sv_iz (Int.add c d) then t else (w, Int.add c d) :: t) else bif Nat.blt v w then (bif sv_iz c then (w, d) :: t else (v, c) :: (w, d) :: t) else (w, d) :: sv_ins v c t
def sv_addT : List (Nat × Int) → List (Nat × Int) → List (Nat × Int)
  | [], b => b
  | (v, c) :: t, b => sv_addT t (sv_ins v c b)
def sv_add (a b : SvL) : SvL := (Int.add a.1 b.1, sv_addT a.2 b.2)
def sv_scT (k : Int) : List (Nat × Int) → List (Nat × Int)
  | [] => []
  | (v, c) :: t => (v, Int.mul k c) :: sv_scT k t
def sv_sc (k : Int) (a : SvL) : SvL := bif sv_iz k then (0, []) else (Int.mul k a.1, sv_scT k a.2)
def sv_sub (a b : SvL) : SvL := sv_add (sv_sc (-1) b) a
def sv_addc (a : SvL) (k : Int) : SvL := (Int.add a.1 k, a.2)
def sv_k (k : Int) : SvL := (k, [])
def sv_v (v : Nat) : SvL := (0, [(v, 1)])
/-- a form over other variables: each variable stands for a form -/
def sv_suT (σ : List SvL) : List (Nat × Int) → Option SvL
  | [] => some (0, [])
  | (v, c) :: t => match sv_nth σ v with
    | some e => match sv_suT σ t with
      | some r => some (sv_add (sv_sc c e) r)
      | none => none
    | none => none
def sv_su (σ : List SvL) (e : SvL) : Option SvL := match sv_suT σ e.2 with
  | some r => some (sv_addc r e.1)
  | none => none
def sv_sus (σ : List SvL) : List SvL → Option (List SvL)
  | [] => some []
  | e :: t => match sv_su σ e with
    | some x => match sv_sus σ t with
      | some xs => some (x :: xs)
      | none => none
    | none => none
/-- the least value by the bounds -/
def sv_lbT (b : List SvB) : List (Nat × Int) → Option Int
  | [] => some 0
  | (v, c) :: t => match sv_nth b v with
    | some q => match sv_lbT b t with
      | some y => bif sv_ge0 c then some (Int.add (Int.mul c q.1) y) else match q.2 with
        | some h => some (Int.add (Int.mul c h) y)
        | none => none
      | none => none
    | none => none
def sv_lb (b : List SvB) (e : SvL) : Option Int := match sv_lbT b e.2 with
  | some y => some (Int.add e.1 y)
  | none => none
def sv_ub (b : List SvB) (e : SvL) : Option Int := match sv_lb b (sv_sc (-1) e) with
  | some y => some (Int.neg y)
  | none => none
/-- a certificate: facts (places, factors) taken from the goal -/
def sv_cut (fs : List SvF) : List (Nat × Nat) → SvL → Option SvL
  | [], g => some g
  | (i, k) :: t, g => match sv_nth fs i with
    | some (0, _, [φ]) => sv_cut fs t (sv_add (sv_sc (Int.neg (Int.ofNat k)) φ) g)
    | _ => none
def sv_prove (b : List SvB) (fs : List SvF) (cert : List (Nat × Nat)) (g : SvL) : Bool := match sv_cut fs cert g with
  | some r => match sv_lb b r with
    | some l => sv_ge0 l
    | none => false
  | none => false
/-- digits of a number: below 512 as they are, else 512 less and 512 times what follows -/
def sv_num : Nat → Nat → Nat × Nat
  | 0, w => (0, w)
  | f + 1, w => bif Nat.blt (Nat.mod w 1024) 512 then (Nat.mod w 1024, Nat.div w 1024) else match sv_num f (Nat.div w 1024) with
    | (a, w') => (Nat.add (Nat.sub (Nat.mod w 1024) 512) (Nat.mul 512 a), w')
def sv_dig : Nat → Nat → List Nat
  | 0, _ => []
  | f + 1, w => match sv_num 12 w with
    | (a, w') => a :: sv_dig f w'
def sv_int (n : Nat) : Int := bif Nat.beq (Nat.mod n 2) 0 then Int.ofNat (Nat.div n 2) else Int.negSucc (Nat.div n 2)
def sv_rpairs : Nat → List Nat → Option (List (Nat × Nat) × List Nat)
  | 0, w => some ([], w)
  | n + 1, a :: b :: w => match sv_rpairs n w with
    | some (l, w') => some ((a, b) :: l, w')
    | none => none
  | _ + 1, _ => none
def sv_rcert : List Nat → Option (List (Nat × Nat) × List Nat)
  | n :: w => sv_rpairs n w
  | [] => none
def sv_rterms : Nat → List Nat → Option (List (Nat × Int) × List Nat)
  | 0, w => some ([], w)
  | n + 1, a :: b :: w => match sv_rterms n w with
    | some (l, w') => some ((a, sv_int b) :: l, w')
    | none => none
  | _ + 1, _ => none
def sv_rlin : List Nat → Option (SvL × List Nat)
  | k :: n :: w => match sv_rterms n w with
    | some (l, w') => some ((sv_int k, l), w')
    | none => none
  | _ => none
def sv_rlins : Nat → List Nat → Option (List SvL × List Nat)
  | 0, w => some ([], w)
  | n + 1, w => match sv_rlin w with
    | some (e, w') => match sv_rlins n w' with
      | some (l, w2) => some (e :: l, w2)
      | none => none
    | none => none
-- equality of data
def sv_ieq : Int → Int → Bool
  | .ofNat a, .ofNat b => Nat.beq a b
  | .negSucc a, .negSucc b => Nat.beq a b
  | _, _ => false
def sv_teq : List (Nat × Int) → List (Nat × Int) → Bool
  | [], [] => true
  | (v, c) :: t, (w, d) :: u => Nat.beq v w && (sv_ieq c d && sv_teq t u)
  | _, _ => false
def sv_leq (a b : SvL) : Bool := sv_ieq a.1 b.1 && sv_teq a.2 b.2
def sv_lseq : List SvL → List SvL → Bool
  | [], [] => true
  | a :: t, b :: u => sv_leq a b && sv_lseq t u
  | _, _ => false
def sv_nseq : List Nat → List Nat → Bool
  | [], [] => true
  | a :: t, b :: u => Nat.beq a b && sv_nseq t u
  | _, _ => false
def sv_feq (f g : SvF) : Bool := Nat.beq f.1 g.1 && (sv_nseq f.2.1 g.2.1 && sv_lseq f.2.2 g.2.2)
def sv_fin (f : SvF) : List SvF → Bool
  | [] => false
  | g :: t => sv_feq f g || sv_fin f t
def sv_nin (n : Nat) : List Nat → Bool
  | [] => false
  | m :: t => Nat.beq n m || sv_nin n t
-- ===== what they mean =====
theorem sv_nth_eq {α : Type} : ∀ (l : List α) (n : Nat), sv_nth l n = l[n]?
  | [], n => by simp [sv_nth]
  | a :: t, 0 => by simp [sv_nth]
  | a :: t, n + 1 => by simp [sv_nth, sv_nth_eq t n]
theorem sv_nth_app {α : Type} {l m : List α} {n : Nat} {a : α} (h : sv_nth l n = some a) : sv_nth (l ++ m) n = some a := by
  rw [sv_nth_eq] at h ⊢
  rw [List.getElem?_append_left (List.getElem?_eq_some_iff.mp h).1]
  exact h
theorem sv_ge0_iff (x : Int) : sv_ge0 x = true ↔ 0 ≤ x := by
  cases x with
  | ofNat n => simp [sv_ge0]
  | negSucc n => simp [sv_ge0]
theorem sv_iz_iff (x : Int) : sv_iz x = true ↔ x = 0 := by
  cases x with
  | ofNat n => simp [sv_iz]
  | negSucc n => simp [sv_iz]
theorem sv_le_iff (a b : Int) : sv_le a b = true ↔ a ≤ b := by
  unfold sv_le
  rw [sv_ge0_iff]
  show 0 ≤ b - a ↔ a ≤ b
  omega
theorem sv_ieq_iff (a b : Int) : sv_ieq a b = true ↔ a = b := by
  cases a <;> cases b <;> simp [sv_ieq] <;> omega
theorem sv_teq_iff : ∀ (a b : List (Nat × Int)), sv_teq a b = true → a = b
  | [], [], _ => rfl
  | [], _ :: _, h => by simp [sv_teq] at h
  | _ :: _, [], h => by simp [sv_teq] at h
  | (v, c) :: t, (w, d) :: u, h => by
    simp only [sv_teq, Bool.and_eq_true] at h
    obtain ⟨h1, h2, h3⟩ := h
    rw [Nat.eq_of_beq_eq_true h1, (sv_ieq_iff c d).mp h2, sv_teq_iff t u h3]
theorem sv_leq_eq {a b : SvL} (h : sv_leq a b = true) : a = b := by
  simp only [sv_leq, Bool.and_eq_true] at h
  obtain ⟨a1, a2⟩ := a
  obtain ⟨b1, b2⟩ := b
  rw [(sv_ieq_iff a1 b1).mp h.1, sv_teq_iff a2 b2 h.2]
theorem sv_lseq_eq : ∀ (a b : List SvL), sv_lseq a b = true → a = b
  | [], [], _ => rfl
  | [], _ :: _, h => by simp [sv_lseq] at h
  | _ :: _, [], h => by simp [sv_lseq] at h
  | x :: t, y :: u, h => by
    simp only [sv_lseq, Bool.and_eq_true] at h
    rw [sv_leq_eq h.1, sv_lseq_eq t u h.2]
theorem sv_nseq_eq : ∀ (a b : List Nat), sv_nseq a b = true → a = b
  | [], [], _ => rfl
  | [], _ :: _, h => by simp [sv_nseq] at h
  | _ :: _, [], h => by simp [sv_nseq] at h
  | x :: t, y :: u, h => by
    simp only [sv_nseq, Bool.and_eq_true] at h
    rw [Nat.eq_of_beq_eq_true h.1, sv_nseq_eq t u h.2]
theorem sv_feq_eq {f g : SvF} (h : sv_feq f g = true) : f = g := by
  simp only [sv_feq, Bool.and_eq_true] at h
  obtain ⟨a, b, c⟩ := f
  obtain ⟨a', b', c'⟩ := g
  obtain ⟨h1, h2, h3⟩ := h
  have e1 : a = a' := Nat.eq_of_beq_eq_true h1
  have e2 : b = b' := sv_nseq_eq b b' h2
  have e3 : c = c' := sv_lseq_eq c c' h3
  rw [e1, e2, e3]
theorem sv_fin_mem {f : SvF} : ∀ {l : List SvF}, sv_fin f l = true → f ∈ l
  | [], h => by simp [sv_fin] at h
  | g :: t, h => by
    simp only [sv_fin, Bool.or_eq_true] at h
    rcases h with h | h
    · rw [sv_feq_eq h]; exact List.mem_cons_self
    · exact List.mem_cons_of_mem _ (sv_fin_mem h)
theorem sv_nin_mem {n : Nat} : ∀ {l : List Nat}, sv_nin n l = true → n ∈ l
  | [], h => by simp [sv_nin] at h
  | m :: t, h => by
    simp only [sv_nin, Bool.or_eq_true] at h
    rcases h with h | h
    · rw [Nat.eq_of_beq_eq_true h]; exact List.mem_cons_self
    · exact List.mem_cons_of_mem _ (sv_nin_mem h)
theorem sv_nin_not {n : Nat} : ∀ {l : List Nat}, sv_nin n l = false → n ∉ l
  | [], _ => List.not_mem_nil
  | m :: t, h => by
    simp only [sv_nin, Bool.or_eq_false_iff] at h
    intro hm
    rcases List.mem_cons.mp hm with e | e
    · subst e
      rw [Nat.beq_refl] at h
      exact absurd h.1 (by decide)
    · exact sv_nin_not h.2 e
-- evaluation
theorem sv_evT_app {ρ τ : List Int} : ∀ {t : List (Nat × Int)} {y : Int}, sv_evT ρ t = some y → sv_evT (ρ ++ τ) t = some y
  | [], y, h => h
  | (v, c) :: t, y, h => by
    simp only [sv_evT] at h ⊢
    cases hx : sv_nth ρ v with
    | none => rw [hx] at h; simp at h
    | some x =>
      rw [hx] at h
      rw [sv_nth_app hx]
      cases hy : sv_evT ρ t with
      | none => rw [hy] at h; simp at h
      | some z =>
        rw [hy] at h
        rw [sv_evT_app hy]
        exact h
theorem sv_ev_app {ρ τ : List Int} {e : SvL} {x : Int} (h : sv_ev ρ e = some x) : sv_ev (ρ ++ τ) e = some x := by
  unfold sv_ev at h ⊢
  cases hy : sv_evT ρ e.2 with
  | none => rw [hy] at h; simp at h
  | some z => rw [hy] at h; rw [sv_evT_app hy]; exact h
theorem sv_evs_app {ρ τ : List Int} : ∀ {l : List SvL} {xs : List Int}, sv_evs ρ l = some xs → sv_evs (ρ ++ τ) l = some xs
  | [], xs, h => h
  | e :: t, xs, h => by
    simp only [sv_evs] at h ⊢
    cases hx : sv_ev ρ e with
    | none => rw [hx] at h; simp at h
    | some x =>
      rw [hx] at h
      rw [sv_ev_app hx]
      cases hy : sv_evs ρ t with
      | none => rw [hy] at h; simp at h
      | some z => rw [hy] at h; rw [sv_evs_app hy]; exact h
theorem sv_evT_cons {ρ : List Int} {v : Nat} {c : Int} {t : List (Nat × Int)} {y : Int} : sv_evT ρ ((v, c) :: t) = some y ↔ ∃ x z, sv_nth ρ v = some x ∧ sv_evT ρ t = some z ∧ c * x + z = y := by
  simp only [sv_evT]
  cases hx : sv_nth ρ v with
  | none => simp
  | some x =>
    cases hy : sv_evT ρ t with
    | none => simp
    | some z => simp
theorem sv_ev_iff {ρ : List Int} {e : SvL} {x : Int} : sv_ev ρ e = some x ↔ ∃ z, sv_evT ρ e.2 = some z ∧ e.1 + z = x := by
  unfold sv_ev
  cases hy : sv_evT ρ e.2 with
  | none => simp
  | some z => simp
theorem sv_evs_cons {ρ : List Int} {e : SvL} {t : List SvL} {xs : List Int} : sv_evs ρ (e :: t) = some xs ↔ ∃ x z, sv_ev ρ e = some x ∧ sv_evs ρ t = some z ∧ xs = x :: z := by
  simp only [sv_evs]
  cases hx : sv_ev ρ e with
  | none => simp
  | some x =>
    cases hy : sv_evs ρ t with
    | none => simp
    | some z => simp [eq_comm]
theorem sv_ev_ins {ρ : List Int} {v : Nat} {c x : Int} (hv : sv_nth ρ v = some x) : ∀ {t : List (Nat × Int)} {z : Int}, sv_evT ρ t = some z → sv_evT ρ (sv_ins v c t) = some (c * x + z)
  | [], z, h => by
    simp only [sv_ins]
    cases hz : sv_iz c with
    | true =>
      rw [(sv_iz_iff c).mp hz]
      simp only [sv_evT] at h
      cases h
      simp [sv_evT]
    | false => exact sv_evT_cons.mpr ⟨x, z, hv, h, rfl⟩
  | (w, d) :: t, z, h => by
    obtain ⟨y, u, h1, h2, rfl⟩ := sv_evT_cons.mp h
    simp only [sv_ins]
    cases hb : Nat.beq v w with
    | true =>
      have e := Nat.eq_of_beq_eq_true hb
      subst e
      rw [hv] at h1
      cases h1
      simp only [cond_true]
      cases hz : sv_iz (Int.add c d) with
      | true =>
        have e : c + d = 0 := (sv_iz_iff _).mp hz
        simp only [cond_true]
        rw [h2, ← Int.add_assoc, ← Int.add_mul, e]
        simp
      | false =>
        simp only [cond_false]
        refine sv_evT_cons.mpr ⟨x, u, hv, h2, ?_⟩
        show (c + d) * x + u = _
        rw [Int.add_mul, Int.add_assoc]
    | false =>
      simp only [cond_false]
      cases hl : Nat.blt v w with
      | true =>
        simp only [cond_true]
        cases hz : sv_iz c with
        | true =>
          rw [(sv_iz_iff c).mp hz]
          simp only [cond_true, Int.zero_mul, Int.zero_add]
          exact h
        | false => exact sv_evT_cons.mpr ⟨x, _, hv, h, rfl⟩
      | false =>
        simp only [cond_false]
        refine sv_evT_cons.mpr ⟨y, c * x + u, h1, sv_ev_ins hv h2, ?_⟩
        omega
theorem sv_ev_addT {ρ : List Int} : ∀ {a b : List (Nat × Int)} {x y : Int}, sv_evT ρ a = some x → sv_evT ρ b = some y → sv_evT ρ (sv_addT a b) = some (x + y)
  | [], b, x, y, h1, h2 => by
    simp only [sv_evT] at h1
    cases h1
    rw [Int.zero_add]
    exact h2
  | (v, c) :: t, b, x, y, h1, h2 => by
    obtain ⟨z, u, g1, g2, rfl⟩ := sv_evT_cons.mp h1
    simp only [sv_addT]
    rw [sv_ev_addT g2 (sv_ev_ins g1 h2)]
    congr 1
    omega
theorem sv_ev_add {ρ : List Int} {a b : SvL} {x y : Int} (h1 : sv_ev ρ a = some x) (h2 : sv_ev ρ b = some y) : sv_ev ρ (sv_add a b) = some (x + y) := by
  obtain ⟨z, g1, rfl⟩ := sv_ev_iff.mp h1
  obtain ⟨u, g2, rfl⟩ := sv_ev_iff.mp h2
  refine sv_ev_iff.mpr ⟨z + u, sv_ev_addT g1 g2, ?_⟩
  show a.1 + b.1 + (z + u) = _
  omega
theorem sv_ev_scT {ρ : List Int} {k : Int} : ∀ {a : List (Nat × Int)} {x : Int}, sv_evT ρ a = some x → sv_evT ρ (sv_scT k a) = some (k * x)
  | [], x, h => by
    simp only [sv_evT] at h
    cases h
    simp [sv_scT, sv_evT]
  | (v, c) :: t, x, h => by
    obtain ⟨z, u, g1, g2, rfl⟩ := sv_evT_cons.mp h
    refine sv_evT_cons.mpr ⟨z, k * u, g1, sv_ev_scT g2, ?_⟩
    show k * c * z + k * u = k * (c * z + u)
    rw [Int.mul_add, Int.mul_assoc]
theorem sv_ev_sc {ρ : List Int} {k : Int} {a : SvL} {x : Int} (h : sv_ev ρ a = some x) : sv_ev ρ (sv_sc k a) = some (k * x) := by
  unfold sv_sc
  cases hz : sv_iz k with
  | true =>
    rw [(sv_iz_iff k).mp hz]
    simp [sv_ev, sv_evT]
  | false =>
    obtain ⟨z, g1, rfl⟩ := sv_ev_iff.mp h
    refine sv_ev_iff.mpr ⟨k * z, sv_ev_scT g1, ?_⟩
    show k * a.1 + k * z = k * (a.1 + z)
    rw [Int.mul_add]
theorem sv_ev_sub {ρ : List Int} {a b : SvL} {x y : Int} (h1 : sv_ev ρ a = some x) (h2 : sv_ev ρ b = some y) : sv_ev ρ (sv_sub a b) = some (x - y) := by
  unfold sv_sub
  rw [sv_ev_add (sv_ev_sc h2) h1]
  congr 1
  omega
theorem sv_ev_addc {ρ : List Int} {a : SvL} {x k : Int} (h1 : sv_ev ρ a = some x) : sv_ev ρ (sv_addc a k) = some (x + k) := by
  obtain ⟨z, g1, rfl⟩ := sv_ev_iff.mp h1
  refine sv_ev_iff.mpr ⟨z, g1, ?_⟩
  show a.1 + k + z = _
  omega
theorem sv_ev_k (ρ : List Int) (k : Int) : sv_ev ρ (sv_k k) = some k := by simp [sv_ev, sv_k, sv_evT]
theorem sv_ev_v {ρ : List Int} {v : Nat} {x : Int} (h : sv_nth ρ v = some x) : sv_ev ρ (sv_v v) = some x := by
  simp [sv_ev, sv_v, sv_evT, h]
theorem sv_ev_v_inv {ρ : List Int} {v : Nat} {x : Int} (h : sv_ev ρ (sv_v v) = some x) : sv_nth ρ v = some x := by
  cases hx : sv_nth ρ v with
  | none => simp [sv_ev, sv_v, sv_evT, hx] at h
  | some y => simp [sv_ev, sv_v, sv_evT, hx] at h; rw [h]
theorem sv_evs_nth {ρ : List Int} : ∀ {σ : List SvL} {τ : List Int} {v : Nat} {e : SvL}, sv_evs ρ σ = some τ → sv_nth σ v = some e → ∃ x, sv_nth τ v = some x ∧ sv_ev ρ e = some x
  | [], τ, v, e, _, he => by simp [sv_nth] at he
  | a :: l, τ, v, e, hσ, he => by
    obtain ⟨x0, z0, q1, q2, rfl⟩ := sv_evs_cons.mp hσ
    cases v with
    | zero =>
      simp only [sv_nth, Option.some.injEq] at he
      subst he
      exact ⟨x0, rfl, q1⟩
    | succ v =>
      simp only [sv_nth] at he
      have ih := sv_evs_nth q2 he
      exact ih
-- substitution
theorem sv_ev_suT {ρ : List Int} {σ : List SvL} {τ : List Int} (hσ : sv_evs ρ σ = some τ) : ∀ {t : List (Nat × Int)} {r : SvL} {y : Int}, sv_suT σ t = some r → sv_evT τ t = some y → sv_ev ρ r = some y
  | [], r, y, h1, h2 => by
    simp only [sv_suT] at h1
    simp only [sv_evT] at h2
    cases h1
    cases h2
    simp [sv_ev, sv_evT]
  | (v, c) :: t, r, y, h1, h2 => by
    obtain ⟨x, z, g1, g2, rfl⟩ := sv_evT_cons.mp h2
    simp only [sv_suT] at h1
    cases he : sv_nth σ v with
    | none => rw [he] at h1; simp at h1
    | some e =>
      rw [he] at h1
      cases hr : sv_suT σ t with
      | none => rw [hr] at h1; simp at h1
      | some r' =>
        rw [hr] at h1
        simp only [Option.some.injEq] at h1
        subst h1
        obtain ⟨x', hx1, hx⟩ := sv_evs_nth hσ he
        rw [g1] at hx1
        cases hx1
        exact sv_ev_add (sv_ev_sc hx) (sv_ev_suT hσ hr g2)
theorem sv_ev_su {ρ : List Int} {σ : List SvL} {τ : List Int} (hσ : sv_evs ρ σ = some τ) {e r : SvL} {y : Int} (h1 : sv_su σ e = some r) (h2 : sv_ev τ e = some y) : sv_ev ρ r = some y := by
  obtain ⟨z, g1, rfl⟩ := sv_ev_iff.mp h2
  unfold sv_su at h1
  cases hr : sv_suT σ e.2 with
  | none => rw [hr] at h1; simp at h1
  | some r' =>
    rw [hr] at h1
    simp only [Option.some.injEq] at h1
    subst h1
    rw [sv_ev_addc (sv_ev_suT hσ hr g1)]
    congr 1
    omega
theorem sv_evs_len {ρ : List Int} : ∀ {σ : List SvL} {τ : List Int}, sv_evs ρ σ = some τ → τ.length = σ.length
  | [], τ, h => by simp only [sv_evs, Option.some.injEq] at h; subst h; rfl
  | a :: l, τ, h => by
    obtain ⟨x0, z0, q1, q2, rfl⟩ := sv_evs_cons.mp h
    simp [sv_evs_len q2]
theorem sv_suT_ok {ρ : List Int} {σ : List SvL} {τ : List Int} (hσ : sv_evs ρ σ = some τ) : ∀ {t : List (Nat × Int)} {r : SvL}, sv_suT σ t = some r → ∃ y, sv_evT τ t = some y
  | [], r, _ => ⟨0, rfl⟩
  | (v, c) :: t, r, h1 => by
    simp only [sv_suT] at h1
    cases he : sv_nth σ v with
    | none => rw [he] at h1; simp at h1
    | some e =>
      rw [he] at h1
      cases hr : sv_suT σ t with
      | none => rw [hr] at h1; simp at h1
      | some r' =>
        obtain ⟨x, hx, -⟩ := sv_evs_nth hσ he
        obtain ⟨y, hy⟩ := sv_suT_ok hσ hr
        exact ⟨c * x + y, sv_evT_cons.mpr ⟨x, y, hx, hy, rfl⟩⟩
theorem sv_su_ok {ρ : List Int} {σ : List SvL} {τ : List Int} (hσ : sv_evs ρ σ = some τ) {e r : SvL} (h1 : sv_su σ e = some r) : ∃ y, sv_ev τ e = some y ∧ sv_ev ρ r = some y := by
  have h2 := h1
  unfold sv_su at h2
  cases hr : sv_suT σ e.2 with
  | none => rw [hr] at h2; simp at h2
  | some r' =>
    obtain ⟨y, hy⟩ := sv_suT_ok hσ hr
    have h3 : sv_ev τ e = some (e.1 + y) := sv_ev_iff.mpr ⟨y, hy, rfl⟩
    exact ⟨e.1 + y, h3, sv_ev_su hσ h1 h3⟩
theorem sv_sus_ok {ρ : List Int} {σ : List SvL} {τ : List Int} (hσ : sv_evs ρ σ = some τ) : ∀ {es rs : List SvL}, sv_sus σ es = some rs → ∃ ys, sv_evs τ es = some ys ∧ sv_evs ρ rs = some ys
  | [], rs, h => by simp only [sv_sus, Option.some.injEq] at h; subst h; exact ⟨[], rfl, rfl⟩
  | e :: t, rs, h => by
    simp only [sv_sus] at h
    cases he : sv_su σ e with
    | none => rw [he] at h; simp at h
    | some x =>
      rw [he] at h
      cases ht : sv_sus σ t with
      | none => rw [ht] at h; simp at h
      | some xs =>
        rw [ht] at h
        simp only [Option.some.injEq] at h
        subst h
        obtain ⟨y, h1, h2⟩ := sv_su_ok hσ he
        obtain ⟨ys, h3, h4⟩ := sv_sus_ok hσ ht
        exact ⟨y :: ys, sv_evs_cons.mpr ⟨y, ys, h1, h3, rfl⟩, sv_evs_cons.mpr ⟨y, ys, h2, h4, rfl⟩⟩
-- bounds
def sv_BOk (ρ : List Int) (b : List SvB) : Prop := ρ.length = b.length ∧ ∀ (i : Nat) (x : Int) (q : SvB), sv_nth ρ i = some x → sv_nth b i = some q → q.1 ≤ x ∧ ∀ h, q.2 = some h → x ≤ h
theorem sv_lbT_ok {ρ : List Int} {b : List SvB} (hb : sv_BOk ρ b) : ∀ {t : List (Nat × Int)} {x l : Int}, sv_evT ρ t = some x → sv_lbT b t = some l → l ≤ x
  | [], x, l, h1, h2 => by
    simp only [sv_evT, Option.some.injEq] at h1
    simp only [sv_lbT, Option.some.injEq] at h2
    omega
  | (v, c) :: t, x, l, h1, h2 => by
    obtain ⟨y, z, g1, g2, rfl⟩ := sv_evT_cons.mp h1
    simp only [sv_lbT] at h2
    cases hq : sv_nth b v with
    | none => rw [hq] at h2; simp at h2
    | some q =>
      rw [hq] at h2
      cases hl : sv_lbT b t with
      | none => rw [hl] at h2; simp at h2
      | some u =>
        rw [hl] at h2
        have ih := sv_lbT_ok hb g2 hl
        obtain ⟨q1, q2⟩ := hb.2 v y q g1 hq
        cases hc : sv_ge0 c with
        | true =>
          rw [hc] at h2
          simp only [cond_true, Option.some.injEq] at h2
          subst h2
          have hm := Int.mul_le_mul_of_nonneg_left q1 ((sv_ge0_iff c).mp hc)
          show c * q.1 + u ≤ c * y + z
          omega
        | false =>
          rw [hc] at h2
          simp only [cond_false] at h2
          cases hh : q.2 with
          | none => rw [hh] at h2; simp at h2
          | some h =>
            rw [hh] at h2
            simp only [Option.some.injEq] at h2
            subst h2
            have hc' : c ≤ 0 := by
              by_cases h0 : 0 ≤ c
              · rw [(sv_ge0_iff c).mpr h0] at hc; cases hc
              · omega
            have hm := Int.mul_le_mul_of_nonpos_left hc' (q2 h hh)
            show c * h + u ≤ c * y + z
            omega
theorem sv_lb_ok {ρ : List Int} {b : List SvB} (hb : sv_BOk ρ b) {e : SvL} {x l : Int} (h1 : sv_ev ρ e = some x) (h2 : sv_lb b e = some l) : l ≤ x := by
  obtain ⟨z, g1, rfl⟩ := sv_ev_iff.mp h1
  unfold sv_lb at h2
  cases hl : sv_lbT b e.2 with
  | none => rw [hl] at h2; simp at h2
  | some u =>
    rw [hl] at h2
    simp only [Option.some.injEq] at h2
    subst h2
    have := sv_lbT_ok hb g1 hl
    show e.1 + u ≤ _
    omega
theorem sv_ub_ok {ρ : List Int} {b : List SvB} (hb : sv_BOk ρ b) {e : SvL} {x h : Int} (h1 : sv_ev ρ e = some x) (h2 : sv_ub b e = some h) : x ≤ h := by
  unfold sv_ub at h2
  cases hl : sv_lb b (sv_sc (-1) e) with
  | none => rw [hl] at h2; simp at h2
  | some u =>
    rw [hl] at h2
    simp only [Option.some.injEq] at h2
    subst h2
    have := sv_lb_ok hb (sv_ev_sc (k := -1) h1) hl
    show x ≤ -u
    omega
end
section
-- ===== values and cells =====
def sv_enc : Value → Int
  | .int x => x.toInt
  | .long x => x.toInt
  | .ref a => (a : Int)
  | .null => -1
  | _ => 0
def sv_tag : Value → Nat
  | .int _ => 1
  | .long _ => 2
  | .ref _ => 3
  | .null => 3
  | _ => 0
theorem sv_val1 {v : Value} (h : sv_tag v = 1) : ∃ x : Int32, v = .int x ∧ sv_enc v = x.toInt := by
  cases v <;> simp [sv_tag] at h
  exact ⟨_, rfl, rfl⟩
theorem sv_val2 {v : Value} (h : sv_tag v = 2) : ∃ x : Int64, v = .long x ∧ sv_enc v = x.toInt := by
  cases v <;> simp [sv_tag] at h
  exact ⟨_, rfl, rfl⟩
theorem sv_val3 {v : Value} (h : sv_tag v = 3) : (v = .null ∧ sv_enc v = -1) ∨ ∃ a : Nat, v = .ref a ∧ sv_enc v = (a : Int) := by
  cases v <;> simp [sv_tag] at h
  · exact Or.inl ⟨rfl, rfl⟩
  · exact Or.inr ⟨_, rfl, rfl⟩
theorem sv_val_eq {v w : Value} (h : sv_tag v = sv_tag w) (h0 : sv_tag w ≠ 0) (e : sv_enc v = sv_enc w) : v = w := by
  cases v <;> cases w <;> simp [sv_tag] at h h0 <;> simp [sv_enc] at e <;> first | rfl | omega | (rw [Int32.toInt_inj.mp e]) | (rw [Int64.toInt_inj.mp e]) | (congr 1; exact Int.ofNat.inj e)
-- a type: tag, least, most, kind of what is referred to, whether it may be null
abbrev SvT : Type := Nat × Int × Int × Nat × Bool
-- a kind: 0 an object | 1 an array; number of its description; types; rows that hold; least and most length; whether nobody writes it
abbrev SvK : Type := Nat × Nat × List SvT × List SvL × Nat × Nat × Bool
def sv_FtOk (κ : Nat → Nat) (sz : Nat) (T : SvT) (v : Value) : Prop :=
  sv_tag v = T.1 ∧ (T.1 ≠ 3 → T.2.1 ≤ sv_enc v ∧ sv_enc v ≤ T.2.2.1) ∧ (T.1 = 3 → (v = .null ∧ T.2.2.2.2 = true) ∨ ∃ a : Nat, v = .ref a ∧ a < sz ∧ κ a = T.2.2.2.1)
/-- what a row of a kind speaks of: 2 f the value of field f, 2 f + 1 the length of the array there -/
def sv_cv (D : va_G) (H : Heap) (ci : Nat) (cell : Cell) (u : Nat) : Int := match cell.slots[D.2 ci (u / 2)]? with
  | some v => if u % 2 = 0 then sv_enc v else match v with
    | .ref a => match H[a]? with
      | some c2 => (c2.slots.size : Int)
      | none => 0
    | _ => 0
  | none => 0
def sv_ivT (D : va_G) (H : Heap) (ci : Nat) (cell : Cell) : List (Nat × Int) → Int
  | [] => 0
  | (u, c) :: t => c * sv_cv D H ci cell u + sv_ivT D H ci cell t
def sv_ObOk (D : va_G) (κ : Nat → Nat) (H : Heap) (K : SvK) (cell : Cell) : Prop :=
  cell.cls = D.1 K.2.1 ∧ cell.vm = .none ∧ (∀ (f : Nat) (T : SvT), sv_nth K.2.2.1 f = some T → ∃ v, cell.slots[D.2 K.2.1 f]? = some v ∧ sv_FtOk κ H.size T v) ∧
  ∀ iv ∈ K.2.2.2.1, 0 ≤ iv.1 + sv_ivT D H K.2.1 cell iv.2
def sv_ArOk (AC : Nat → ClassId) (κ : Nat → Nat) (sz : Nat) (K : SvK) (cell : Cell) : Prop :=
  cell.cls = AC K.2.1 ∧ cell.vm = .none ∧ K.2.2.2.2.1 ≤ cell.slots.size ∧ cell.slots.size ≤ K.2.2.2.2.2.1 ∧ ∀ T, sv_nth K.2.2.1 0 = some T → ∀ (i : Nat) (v : Value), cell.slots[i]? = some v → sv_FtOk κ sz T v
def sv_ClOk (D : va_G) (AC : Nat → ClassId) (κ : Nat → Nat) (H : Heap) (K : SvK) (cell : Cell) : Prop :=
  (K.1 = 0 ∧ sv_ObOk D κ H K cell) ∨ (K.1 = 1 ∧ sv_ArOk AC κ H.size K cell)
/-- the FILES that a tree has are there -/
def sv_G1 (D : va_G) (κ : Nat → Nat) (H : Heap) : Prop := ∀ (q a : Nat) (c ca : Cell) (n : Int32), κ q = g_tree → H[q]? = some c → c.slots[D.2 g_treeC g_total]? = some (.int n) → c.slots[D.2 g_treeC g_items]? = some (.ref a) → H[a]? = some ca → ∀ j : Nat, (j : Int) < n.toInt → ∃ b, ca.slots[j]? = some (.ref b)
/-- volumes that are kept are not greater than 256 -/
def sv_G2 (D : va_G) (κ : Nat → Nat) (H : Heap) : Prop := ∀ (q j b : Nat) (c cb : Cell) (n : Int32), κ q = g_vols → H[q]? = some c → c.slots[j]? = some (.ref b) → H[b]? = some cb → cb.slots[D.2 g_volC g_size]? = some (.int n) → n.toInt ≤ 256
/-- from and to of what is opened -/
def sv_G3 (κ : Nat → Nat) (H : Heap) : Prop := ∀ (q j : Nat) (c : Cell) (n : Int32), κ q = g_facts → H[q]? = some c → c.slots[j]? = some (.int n) → (j % 5 = 1 ∨ j % 5 = 2) → 0 ≤ n.toInt ∧ n.toInt ≤ 5000
def sv_G (D : va_G) (κ : Nat → Nat) (H : Heap) : Prop := sv_G1 D κ H ∧ sv_G2 D κ H ∧ sv_G3 κ H
/-- what the kinds that these speak of are -/
def sv_Gk (kd : List SvK) : Bool :=
  (match sv_nth kd g_tree with
    | some k => Nat.beq k.1 0 && Nat.beq k.2.1 g_treeC && (match sv_nth k.2.2.1 g_items with
      | some T => Nat.beq T.1 3 && Nat.beq T.2.2.2.1 g_aitems
      | none => false) && (match sv_nth k.2.2.1 g_total with
      | some T => Nat.beq T.1 1
      | none => false)
    | none => false) && (match sv_nth kd g_aitems with
    | some k => Nat.beq k.1 1 && (match sv_nth k.2.2.1 0 with
      | some T => Nat.beq T.1 3
      | none => false)
    | none => false) && (match sv_nth kd g_vols with
    | some k => Nat.beq k.1 1 && (match sv_nth k.2.2.1 0 with
      | some T => Nat.beq T.1 3 && Nat.beq T.2.2.2.1 g_vol
      | none => false)
    | none => false) && (match sv_nth kd g_vol with
    | some k => Nat.beq k.1 0 && Nat.beq k.2.1 g_volC && (match sv_nth k.2.2.1 g_size with
      | some T => Nat.beq T.1 1
      | none => false)
    | none => false) && (match sv_nth kd g_facts with
    | some k => Nat.beq k.1 1
    | none => false)
def sv_TI (D : va_G) (AC : Nat → ClassId) (kd : List SvK) (B0 : Nat) (κ : Nat → Nat) (H : Heap) : Prop :=
  (∀ q, κ q ≠ 0 → ∃ (K : SvK) (cell : Cell), sv_nth kd (κ q) = some K ∧ H[q]? = some cell ∧ sv_ClOk D AC κ H K cell) ∧
  (∀ (q : Nat) (K : SvK), q < B0 → κ q ≠ 0 → sv_nth kd (κ q) = some K → K.1 = 1 ∧ (K.2.2.2.2.2.2 = true ∨ ∀ cell, H[q]? = some cell → cell.slots.size = 0)) ∧ B0 ≤ H.size ∧ sv_G D κ H
def sv_slots (H : Heap) : Nat := (H.toList.map (·.slots.size)).sum
/-- what a fact says -/
def sv_FI (P : Nat → List Nat → List Int → (Nat → Nat) → Heap → Prop) (D : va_G) (kd : List SvK) (κ : Nat → Nat) (H : Heap) (tag : Nat) (st : List Nat) (vs : List Int) : Prop :=
  match tag, st, vs with
  | 0, _, [x] => 0 ≤ x
  | 1, [K], [a] => K ≠ 0 ∧ (a = -1 ∨ ∃ q : Nat, a = (q : Int) ∧ q < H.size ∧ κ q = K)
  | 2, _, [a, n] => ∀ q : Nat, a = (q : Int) → ∃ cell : Cell, H[q]? = some cell ∧ (cell.slots.size : Int) = n
  | 3, [K, ci, f, t], [a, x] => K ≠ 0 ∧ (∃ k, sv_nth kd K = some k ∧ k.1 = 0 ∧ k.2.1 = ci ∧ f < k.2.2.1.length) ∧ ∀ q : Nat, a = (q : Int) → κ q = K ∧ ∃ (cell : Cell) (v : Value), H[q]? = some cell ∧ cell.slots[D.2 ci f]? = some v ∧ sv_tag v = t ∧ sv_enc v = x
  | 4, [K, t], [a, i, x] => K ≠ 0 ∧ (∃ k, sv_nth kd K = some k ∧ k.1 = 1) ∧ ∀ q j : Nat, a = (q : Int) → i = (j : Int) → κ q = K ∧ ∃ cell : Cell, H[q]? = some cell ∧ (j < cell.slots.size → ∃ v, cell.slots[j]? = some v ∧ sv_tag v = t ∧ sv_enc v = x)
  | 7, _, [x] => (H.size : Int) = x
  | 8, _, [x] => (sv_slots H : Int) = x
  | n + 16, st, vs => P n st vs κ H
  | _, _, _ => False
def sv_FOk (P : Nat → List Nat → List Int → (Nat → Nat) → Heap → Prop) (D : va_G) (kd : List SvK) (κ : Nat → Nat) (H : Heap) (ρ : List Int) (f : SvF) : Prop :=
  ∃ vs, sv_evs ρ f.2.2 = some vs ∧ sv_FI P D kd κ H f.1 f.2.1 vs
def sv_VOk (ρ : List Int) (a : SvA) (v : Value) : Prop := sv_tag v = a.1 ∧ a.1 ≠ 0 ∧ sv_ev ρ a.2 = some (sv_enc v)
def sv_StOk (ρ : List Int) : List SvA → List Value → Prop
  | [], [] => True
  | a :: as, v :: vs => sv_VOk ρ a v ∧ sv_StOk ρ as vs
  | _, _ => False
def sv_LoOk (ρ : List Int) : List (Nat × SvA) → List (Nat × Value) → Prop
  | [], [] => True
  | a :: as, v :: vs => a.1 = v.1 ∧ sv_VOk ρ a.2 v.2 ∧ sv_LoOk ρ as vs
  | _, _ => False
-- a state of the checker: bounds, what the locals hold, the operands, facts
abbrev SvS : Type := List SvB × List (Nat × SvA) × List SvA × List SvF
def sv_Sat (P : Nat → List Nat → List Int → (Nat → Nat) → Heap → Prop) (D : va_G) (kd : List SvK) (κ : Nat → Nat) (H : Heap) (ρ : List Int) (nL : Nat) (ls : Array Slot) (st : List Value) (S : SvS) : Prop :=
  sv_BOk ρ S.1 ∧ (∃ lv, lv_has ls nL lv ∧ sv_LoOk ρ S.2.1 lv) ∧ sv_StOk ρ S.2.2.1 st ∧ ∀ f ∈ S.2.2.2, sv_FOk P D kd κ H ρ f
theorem sv_cut_ok {P : Nat → List Nat → List Int → (Nat → Nat) → Heap → Prop} {D : va_G} {kd : List SvK} {κ : Nat → Nat} {H : Heap} {ρ : List Int} {fs : List SvF} (hf : ∀ f ∈ fs, sv_FOk P D kd κ H ρ f) : ∀ {c : List (Nat × Nat)} {g r : SvL} {x : Int}, sv_ev ρ g = some x → sv_cut fs c g = some r → ∃ y, sv_ev ρ r = some y ∧ y ≤ x
  | [], g, r, x, h1, h2 => by
    simp only [sv_cut, Option.some.injEq] at h2
    subst h2
    exact ⟨x, h1, Int.le_refl _⟩
  | (i, k) :: t, g, r, x, h1, h2 => by
    simp only [sv_cut] at h2
    split at h2
    · rename_i b φ hn
      have hm : ((0, b, [φ]) : SvF) ∈ fs := List.mem_of_getElem? (by rw [← sv_nth_eq]; exact hn)
      obtain ⟨vs, e1, e2⟩ := hf _ hm
      obtain ⟨y, z, q1, q2, rfl⟩ := sv_evs_cons.mp e1
      simp only [sv_evs, Option.some.injEq] at q2
      subst q2
      have e3 : 0 ≤ y := e2
      obtain ⟨u, u1, u2⟩ := sv_cut_ok hf (sv_ev_add (sv_ev_sc (k := Int.neg (Int.ofNat k)) q1) h1) h2
      refine ⟨u, u1, Int.le_trans u2 ?_⟩
      have hm := Int.mul_nonneg (Int.natCast_nonneg k) e3
      show (-(k : Int)) * y + x ≤ x
      rw [Int.neg_mul]
      omega
    · simp at h2
theorem sv_prove_ok {P : Nat → List Nat → List Int → (Nat → Nat) → Heap → Prop} {D : va_G} {kd : List SvK} {κ : Nat → Nat} {H : Heap} {ρ : List Int} {b : List SvB} {fs : List SvF} (hb : sv_BOk ρ b) (hf : ∀ f ∈ fs, sv_FOk P D kd κ H ρ f) {c : List (Nat × Nat)} {g : SvL} {x : Int} (h1 : sv_ev ρ g = some x) (h2 : sv_prove b fs c g = true) : 0 ≤ x := by
  unfold sv_prove at h2
  cases hc : sv_cut fs c g with
  | none => rw [hc] at h2; simp at h2
  | some r =>
    rw [hc] at h2
    obtain ⟨y, y1, y2⟩ := sv_cut_ok hf h1 hc
    cases hl : sv_lb b r with
    | none => simp only [hl] at h2; cases h2
    | some l =>
      simp only [hl] at h2
      have h3 := (sv_ge0_iff l).mp h2
      have h4 := sv_lb_ok hb y1 hl
      omega
end
section
def sv_lo (t : Nat) : Int := bif Nat.beq t 1 then -2147483648 else -9223372036854775808
def sv_hi (t : Nat) : Int := bif Nat.beq t 1 then 2147483647 else 9223372036854775807
def sv_in (b : List SvB) (e : SvL) (lo hi : Int) : Bool := match sv_lb b e with
  | some x => match sv_ub b e with
    | some y => sv_le lo x && sv_le y hi
    | none => false
  | none => false
def sv_two (b : List SvB) (fs : List SvF) (e : SvL) (lo hi : Int) (w : List Nat) : Option (List Nat) := match sv_rcert w with
  | some (c1, w1) => match sv_rcert w1 with
    | some (c2, w2) => bif sv_prove b fs c1 (sv_addc e (Int.neg lo)) && sv_prove b fs c2 (sv_addc (sv_sc (-1) e) hi) then some w2 else none
    | none => none
  | none => none
def sv_fresh (S : SvS) (t : Nat) (rest : List SvA) (lo hi : Int) : SvS := (S.1 ++ [(lo, some hi)], S.2.1, (t, sv_v S.1.length) :: rest, S.2.2.2)
/-- what a count gives: the form itself where it stays in range, else any number -/
def sv_res (t : Nat) (S : SvS) (rest : List SvA) (e : SvL) : List Nat → Option (SvS × List Nat)
  | 0 :: w => bif sv_in S.1 e (sv_lo t) (sv_hi t) then some ((S.1, S.2.1, (t, e) :: rest, S.2.2.2), w) else none
  | 1 :: w => match sv_two S.1 S.2.2.2 e (sv_lo t) (sv_hi t) w with
    | some w' => some ((S.1, S.2.1, (t, e) :: rest, S.2.2.2), w')
    | none => none
  | 2 :: w => some (sv_fresh S t rest (sv_lo t) (sv_hi t), w)
  | _ => none
theorem sv_BOk_add {ρ : List Int} {b : List SvB} (hb : sv_BOk ρ b) {lo x : Int} {hi : Option Int} (h1 : lo ≤ x) (h2 : ∀ h, hi = some h → x ≤ h) : sv_BOk (ρ ++ [x]) (b ++ [(lo, hi)]) := by
  obtain ⟨hl, hb⟩ := hb
  refine ⟨by simp [hl], fun i y q hy hq => ?_⟩
  rw [sv_nth_eq] at hy hq
  by_cases hi : i < ρ.length
  · rw [List.getElem?_append_left hi] at hy
    rw [List.getElem?_append_left (by omega)] at hq
    exact hb i y q (by rw [sv_nth_eq]; exact hy) (by rw [sv_nth_eq]; exact hq)
  · rw [List.getElem?_append_right (by omega)] at hy
    rw [List.getElem?_append_right (by omega)] at hq
    have h3 : i - ρ.length < 1 := (List.getElem?_eq_some_iff.mp hy).1
    have h4 : i - ρ.length = 0 := by omega
    have h5 : i - b.length = 0 := by omega
    rw [h4] at hy
    rw [h5] at hq
    simp at hy hq
    subst hy
    subst hq
    exact ⟨h1, h2⟩
theorem sv_nth_last {ρ : List Int} {b : List SvB} (hb : sv_BOk ρ b) (x : Int) : sv_nth (ρ ++ [x]) b.length = some x := by
  rw [sv_nth_eq, ← hb.1]
  simp
theorem sv_VOk_app {ρ τ : List Int} {a : SvA} {v : Value} (h : sv_VOk ρ a v) : sv_VOk (ρ ++ τ) a v := ⟨h.1, h.2.1, sv_ev_app h.2.2⟩
theorem sv_StOk_app {ρ τ : List Int} : ∀ {as : List SvA} {vs : List Value}, sv_StOk ρ as vs → sv_StOk (ρ ++ τ) as vs
  | [], [], _ => trivial
  | [], _ :: _, h => h.elim
  | _ :: _, [], h => h.elim
  | _ :: _, _ :: _, h => ⟨sv_VOk_app h.1, sv_StOk_app h.2⟩
theorem sv_LoOk_app {ρ τ : List Int} : ∀ {as : List (Nat × SvA)} {vs : List (Nat × Value)}, sv_LoOk ρ as vs → sv_LoOk (ρ ++ τ) as vs
  | [], [], _ => trivial
  | [], _ :: _, h => h.elim
  | _ :: _, [], h => h.elim
  | _ :: _, _ :: _, h => ⟨h.1, sv_VOk_app h.2.1, sv_LoOk_app h.2.2⟩
theorem sv_StOk_cons {ρ : List Int} {a : SvA} {as : List SvA} {vs : List Value} (h : sv_StOk ρ (a :: as) vs) : ∃ v vs', vs = v :: vs' ∧ sv_VOk ρ a v ∧ sv_StOk ρ as vs' := by
  cases vs with
  | nil => exact h.elim
  | cons v vs' => exact ⟨v, vs', rfl, h.1, h.2⟩
theorem sv_StOk_nil {ρ : List Int} {vs : List Value} (h : sv_StOk ρ [] vs) : vs = [] := by
  cases vs with
  | nil => rfl
  | cons v vs' => exact h.elim
theorem sv_VOk1 {ρ : List Int} {e : SvL} {v : Value} (h : sv_VOk ρ (1, e) v) : ∃ x : Int32, v = .int x ∧ sv_ev ρ e = some x.toInt := by
  obtain ⟨x, rfl, -⟩ := sv_val1 h.1
  exact ⟨x, rfl, h.2.2⟩
theorem sv_VOk2 {ρ : List Int} {e : SvL} {v : Value} (h : sv_VOk ρ (2, e) v) : ∃ x : Int64, v = .long x ∧ sv_ev ρ e = some x.toInt := by
  obtain ⟨x, rfl, -⟩ := sv_val2 h.1
  exact ⟨x, rfl, h.2.2⟩
theorem sv_VOk3 {ρ : List Int} {e : SvL} {v : Value} (h : sv_VOk ρ (3, e) v) : (v = .null ∧ sv_ev ρ e = some (-1)) ∨ ∃ a : Nat, v = .ref a ∧ sv_ev ρ e = some (a : Int) := by
  rcases sv_val3 h.1 with ⟨rfl, -⟩ | ⟨a, rfl, -⟩
  · exact Or.inl ⟨rfl, h.2.2⟩
  · exact Or.inr ⟨a, rfl, h.2.2⟩
theorem sv_mkV1 {ρ : List Int} {e : SvL} {x : Int32} (h : sv_ev ρ e = some x.toInt) : sv_VOk ρ (1, e) (.int x) := ⟨rfl, Nat.succ_ne_zero _, h⟩
theorem sv_mkV2 {ρ : List Int} {e : SvL} {x : Int64} (h : sv_ev ρ e = some x.toInt) : sv_VOk ρ (2, e) (.long x) := ⟨rfl, Nat.succ_ne_zero _, h⟩
theorem sv_mkV3 {ρ : List Int} {e : SvL} {a : Nat} (h : sv_ev ρ e = some (a : Int)) : sv_VOk ρ (3, e) (.ref a) := ⟨rfl, Nat.succ_ne_zero _, h⟩
theorem sv_mkV3n {ρ : List Int} {e : SvL} (h : sv_ev ρ e = some (-1)) : sv_VOk ρ (3, e) .null := ⟨rfl, Nat.succ_ne_zero _, h⟩
theorem sv_in_ok {ρ : List Int} {b : List SvB} (hb : sv_BOk ρ b) {e : SvL} {x lo hi : Int} (h1 : sv_ev ρ e = some x) (h2 : sv_in b e lo hi = true) : lo ≤ x ∧ x ≤ hi := by
  unfold sv_in at h2
  cases hl : sv_lb b e with
  | none => rw [hl] at h2; simp at h2
  | some a =>
    rw [hl] at h2
    cases hu : sv_ub b e with
    | none => rw [hu] at h2; simp at h2
    | some c =>
      rw [hu] at h2
      simp only [Bool.and_eq_true, sv_le_iff] at h2
      have h3 := sv_lb_ok hb h1 hl
      have h4 := sv_ub_ok hb h1 hu
      omega
section SVB
variable {P : Nat → List Nat → List Int → (Nat → Nat) → Heap → Prop} {D : va_G} {kd : List SvK} {κ : Nat → Nat} {H : Heap} {ρ : List Int} {nL : Nat} {ls : Array Slot} {st : List Value} {S : SvS}
theorem sv_FOk_app {τ : List Int} {f : SvF} (h : sv_FOk P D kd κ H ρ f) : sv_FOk P D kd κ H (ρ ++ τ) f := by
  obtain ⟨vs, h1, h2⟩ := h
  exact ⟨vs, sv_evs_app h1, h2⟩
theorem sv_two_ok {w w' : List Nat} {b : List SvB} {fs : List SvF} (hb : sv_BOk ρ b) (hf : ∀ f ∈ fs, sv_FOk P D kd κ H ρ f) {e : SvL} {x lo hi : Int} (h1 : sv_ev ρ e = some x) (h2 : sv_two b fs e lo hi w = some w') : lo ≤ x ∧ x ≤ hi := by
  unfold sv_two at h2
  split at h2
  · rename_i c1 w1 e1
    split at h2
    · rename_i c2 w2 e2
      cases hp : (sv_prove b fs c1 (sv_addc e (Int.neg lo)) && sv_prove b fs c2 (sv_addc (sv_sc (-1) e) hi)) with
      | false => rw [hp] at h2; simp at h2
      | true =>
        rw [Bool.and_eq_true] at hp
        have g1 := sv_prove_ok hb hf (sv_ev_addc h1) hp.1
        have g2 := sv_prove_ok hb hf (sv_ev_addc (sv_ev_sc h1)) hp.2
        have g3 : 0 ≤ x + -lo := g1
        omega
    · simp at h2
  · simp at h2
/-- a state whose operands go on with a new number -/
theorem sv_fresh_ok {rest : List SvA} {st' : List Value} {t : Nat} {lo hi : Int} {v : Value} (hS : sv_Sat P D kd κ H ρ nL ls st S) (hr : sv_StOk ρ rest st') (ht : sv_tag v = t) (ht0 : t ≠ 0) (h1 : lo ≤ sv_enc v) (h2 : sv_enc v ≤ hi) :
    sv_Sat P D kd κ H (ρ ++ [sv_enc v]) nL ls (v :: st') (sv_fresh S t rest lo hi) := by
  obtain ⟨hb, ⟨lv, hl1, hl2⟩, -, hf⟩ := hS
  refine ⟨sv_BOk_add hb h1 (fun h e => by cases e; exact h2), ⟨lv, hl1, sv_LoOk_app hl2⟩, ⟨⟨ht, ht0, sv_ev_v (sv_nth_last hb _)⟩, sv_StOk_app hr⟩, fun f hm => sv_FOk_app (hf f hm)⟩
theorem sv_stk_ok {rest : List SvA} {st' : List Value} {a : SvA} {v : Value} (hS : sv_Sat P D kd κ H ρ nL ls st S) (hr : sv_StOk ρ rest st') (hv : sv_VOk ρ a v) : sv_Sat P D kd κ H ρ nL ls (v :: st') (S.1, S.2.1, a :: rest, S.2.2.2) := ⟨hS.1, hS.2.1, ⟨hv, hr⟩, hS.2.2.2⟩
theorem sv_pop_ok {rest : List SvA} {st' : List Value} (hS : sv_Sat P D kd κ H ρ nL ls st S) (hr : sv_StOk ρ rest st') : sv_Sat P D kd κ H ρ nL ls st' (S.1, S.2.1, rest, S.2.2.2) := ⟨hS.1, hS.2.1, hr, hS.2.2.2⟩
theorem sv_res_ok {t : Nat} {S' : SvS} {rest : List SvA} {e : SvL} {w w' : List Nat} {st' : List Value} {v : Value} {z : Int} (hS : sv_Sat P D kd κ H ρ nL ls st S) (hr : sv_StOk ρ rest st') (h : sv_res t S rest e w = some (S', w')) (hz : sv_ev ρ e = some z) (ht : sv_tag v = t) (ht0 : t ≠ 0) (h1 : sv_lo t ≤ sv_enc v) (h2 : sv_enc v ≤ sv_hi t) (hx : sv_lo t ≤ z → z ≤ sv_hi t → sv_enc v = z) :
    ∃ τ, sv_Sat P D kd κ H (ρ ++ τ) nL ls (v :: st') S' := by
  unfold sv_res at h
  split at h
  · cases hi : sv_in S.1 e (sv_lo t) (sv_hi t) with
    | false => rw [hi] at h; simp at h
    | true =>
      rw [hi] at h
      simp only [cond_true, Option.some.injEq, Prod.mk.injEq] at h
      obtain ⟨rfl, -⟩ := h
      obtain ⟨g1, g2⟩ := sv_in_ok hS.1 hz hi
      refine ⟨[], ?_⟩
      rw [List.append_nil]
      exact sv_stk_ok hS hr ⟨ht, ht0, by rw [hx g1 g2]; exact hz⟩
  · split at h
    · rename_i w2 hi
      simp only [Option.some.injEq, Prod.mk.injEq] at h
      obtain ⟨rfl, -⟩ := h
      obtain ⟨g1, g2⟩ := sv_two_ok hS.1 hS.2.2.2 hz hi
      refine ⟨[], ?_⟩
      rw [List.append_nil]
      exact sv_stk_ok hS hr ⟨ht, ht0, by rw [hx g1 g2]; exact hz⟩
    · simp at h
  · simp only [Option.some.injEq, Prod.mk.injEq] at h
    obtain ⟨rfl, -⟩ := h
    exact ⟨_, sv_fresh_ok hS hr ht ht0 h1 h2⟩
  · simp at h
end SVB
theorem sv_r1 (x : Int32) : sv_lo 1 ≤ x.toInt ∧ x.toInt ≤ sv_hi 1 := by
  have h1 := Int32.le_toInt x
  have h2 := Int32.toInt_lt x
  have e1 : sv_lo 1 = -2147483648 := rfl
  have e2 : sv_hi 1 = 2147483647 := rfl
  rw [e1, e2]
  omega
theorem sv_r2 (x : Int64) : sv_lo 2 ≤ x.toInt ∧ x.toInt ≤ sv_hi 2 := by
  have h1 := Int64.le_toInt x
  have h2 := Int64.toInt_lt x
  have e1 : sv_lo 2 = -9223372036854775808 := rfl
  have e2 : sv_hi 2 = 9223372036854775807 := rfl
  rw [e1, e2]
  omega
theorem sv_bm32 {z : Int} (h1 : sv_lo 1 ≤ z) (h2 : z ≤ sv_hi 1) : z.bmod (2 ^ 32) = z := by
  have e1 : sv_lo 1 = -2147483648 := rfl
  have e2 : sv_hi 1 = 2147483647 := rfl
  rw [e1] at h1
  rw [e2] at h2
  exact Int.bmod_eq_of_le_mul_two (by omega) (by omega)
theorem sv_bm64 {z : Int} (h1 : sv_lo 2 ≤ z) (h2 : z ≤ sv_hi 2) : z.bmod (2 ^ 64) = z := by
  have e1 : sv_lo 2 = -9223372036854775808 := rfl
  have e2 : sv_hi 2 = 9223372036854775807 := rfl
  rw [e1] at h1
  rw [e2] at h2
  exact Int.bmod_eq_of_le_mul_two (by omega) (by omega)
end
section
-- ===== the machine at a state of the checker =====
/-- what of an old cell a method may change: fields (256 times the description, and the field) and kinds of arrays -/
def sv_Fr (D : va_G) (kd : List SvK) (mF mA : List Nat) (κ : Nat → Nat) (H0 H : Heap) : Prop :=
  ∀ (q : Nat) (c : Cell), H0[q]? = some c → ∃ c' : Cell, H[q]? = some c' ∧ c'.cls = c.cls ∧ c'.vm = c.vm ∧ c'.slots.size = c.slots.size ∧ (κ q = 0 → c' = c) ∧
    ∀ K, sv_nth kd (κ q) = some K → (K.1 = 0 → ∀ f, f < K.2.2.1.length → 256 * K.2.1 + f ∉ mF → c'.slots[D.2 K.2.1 f]? = c.slots[D.2 K.2.1 f]?) ∧ (K.1 = 1 → κ q ∉ mA → c'.slots = c.slots)
def sv_free (B0 : Nat) (κ0 : Nat → Nat) (h0 : Nat) : Nat → Prop := fun q => (B0 ≤ q ∧ κ0 q ≠ 0) ∨ h0 ≤ q
def sv_Inv (s : State) (D : va_G) (AC : Nat → ClassId) (kd : List SvK) (B0 : Nat) (κ0 : Nat → Nat) (mF mA : List Nat) (κ : Nat → Nat) (H : Heap) (locs : List Loc) : Prop :=
  sv_TI D AC kd B0 κ H ∧ (∀ q, q < s.heap.size → κ q = κ0 q) ∧ sv_Fr D kd mF mA κ0 s.heap H ∧ (∀ x ∈ locs, sv_free B0 κ0 s.heap.size x.base) ∧ s.heap.size ≤ H.size ∧ sv_slots s.heap ≤ sv_slots H
def sv_Good (p : Program) (l : Launch) (e : Env) (R : Room) (s : State) (m : MethodId) (args : Array Value) (below : List Frame) (meth : Method) (c : Code) (Q : State → Prop)
    (P : Nat → List Nat → List Int → (Nat → Nat) → Heap → Prop) (D : va_G) (AC : Nat → ClassId) (kd : List SvK) (B0 : Nat) (κ0 : Nat → Nat) (mF mA : List Nat) (Px : List Int → Prop) (nL : Nat) (S : SvS) (pc : Nat) : Prop :=
  ∀ (κ : Nat → Nat) (H : Heap) (locs : List Loc) (ρ : List Int) (ls : Array Slot) (st : List Value), sv_Inv s D AC kd B0 κ0 mF mA κ H locs → Px ρ → sv_Sat P D kd κ H ρ nL ls st S →
    W p l e R s m args below meth c H locs (H.size - s.heap.size) (sv_slots H - sv_slots s.heap) Q (F0 m pc ls st)
def sv_get : List (Nat × SvA) → Nat → Option SvA
  | [], _ => none
  | (j, a) :: t, i => bif Nat.beq j i then some a else sv_get t i
def sv_fl (i : Nat) (two : Bool) : List (Nat × SvA) → List (Nat × SvA)
  | [] => []
  | (j, a) :: t => bif Nat.beq j i || ((two && Nat.beq j (i + 1)) || (Nat.beq (j + 1) i && Nat.beq a.1 2)) then sv_fl i two t else (j, a) :: sv_fl i two t
def sv_ld (S : SvS) (t i n pc : Nat) (w : List Nat) : Option (List (SvS × Nat) × List Nat) := match sv_get S.2.1 i with
  | some a => bif Nat.beq a.1 t then some ([((S.1, S.2.1, a :: S.2.2.1, S.2.2.2), pc + n)], w) else none
  | none => none
def sv_sto (nL : Nat) (S : SvS) (t i n pc : Nat) (w : List Nat) : Option (List (SvS × Nat) × List Nat) := match S.2.2.1 with
  | a :: r => bif Nat.beq a.1 t && (bif Nat.beq t 2 then Nat.blt (i + 1) nL else Nat.blt i nL) then some ([((S.1, (i, a) :: sv_fl i (Nat.beq t 2) S.2.1, r, S.2.2.2), pc + n)], w) else none
  | [] => none
def sv_to (S : SvS) (st : List SvA) (n k pc : Nat) (w : List Nat) : Option (List (SvS × Nat) × List Nat) := bif Nat.beq n k then some ([((S.1, S.2.1, st, S.2.2.2), pc + k)], w) else none
/-- loads, stores, constants, the pile -/
def sv_A (nL : Nat) (S : SvS) (pc : Nat) (i : Instr) (n : Nat) (w : List Nat) : Option (List (SvS × Nat) × List Nat) := match i with
  | .iconst k => bif sv_le (-1) k && sv_le k 5 then sv_to S ((1, sv_k k) :: S.2.2.1) n 1 pc w else none
  | .bipush k => bif sv_le (-128) k && sv_le k 127 then sv_to S ((1, sv_k k) :: S.2.2.1) n 2 pc w else none
  | .sipush k => bif sv_le (-32768) k && sv_le k 32767 then sv_to S ((1, sv_k k) :: S.2.2.1) n 3 pc w else none
  | .lconst f => sv_to S ((2, sv_k (Int.ofNat f.val)) :: S.2.2.1) n 1 pc w
  | .aconst_null => sv_to S ((3, sv_k (-1)) :: S.2.2.1) n 1 pc w
  | .iload_n f => bif Nat.beq n 1 then sv_ld S 1 f.val 1 pc w else none
  | .iload j => bif Nat.beq n 2 then sv_ld S 1 j 2 pc w else none
  | .lload_n f => bif Nat.beq n 1 then sv_ld S 2 f.val 1 pc w else none
  | .lload j => bif Nat.beq n 2 then sv_ld S 2 j 2 pc w else none
  | .aload_n f => bif Nat.beq n 1 then sv_ld S 3 f.val 1 pc w else none
  | .aload j => bif Nat.beq n 2 then sv_ld S 3 j 2 pc w else none
  | .istore_n f => bif Nat.beq n 1 then sv_sto nL S 1 f.val 1 pc w else none
  | .istore j => bif Nat.beq n 2 then sv_sto nL S 1 j 2 pc w else none
  | .lstore_n f => bif Nat.beq n 1 then sv_sto nL S 2 f.val 1 pc w else none
  | .lstore j => bif Nat.beq n 2 then sv_sto nL S 2 j 2 pc w else none
  | .astore_n f => bif Nat.beq n 1 then sv_sto nL S 3 f.val 1 pc w else none
  | .astore j => bif Nat.beq n 2 then sv_sto nL S 3 j 2 pc w else none
  | .dup => match S.2.2.1 with
    | a :: r => bif Nat.beq a.1 2 then none else sv_to S (a :: a :: r) n 1 pc w
    | _ => none
  | .dup_x1 => match S.2.2.1 with
    | a :: b :: r => bif Nat.beq a.1 2 || Nat.beq b.1 2 then none else sv_to S (a :: b :: a :: r) n 1 pc w
    | _ => none
  | .dup2 => match S.2.2.1 with
    | a :: b :: r => bif Nat.beq a.1 2 then sv_to S (a :: a :: b :: r) n 1 pc w else bif Nat.beq b.1 2 then none else sv_to S (a :: b :: a :: b :: r) n 1 pc w
    | a :: [] => bif Nat.beq a.1 2 then sv_to S (a :: a :: []) n 1 pc w else none
    | _ => none
  | .pop => match S.2.2.1 with
    | a :: r => bif Nat.beq a.1 2 then none else sv_to S r n 1 pc w
    | _ => none
  | .pop2 => match S.2.2.1 with
    | a :: r => bif Nat.beq a.1 2 then sv_to S r n 1 pc w else none
    | _ => none
  | .goto o => bif Nat.beq n 3 && sv_ge0 (Int.add (Int.ofNat pc) o) then some ([(S, (Int.add (Int.ofNat pc) o).toNat)], w) else none
  | _ => none
theorem sv_cat {ρ : List Int} {a : SvA} {v : Value} (h : sv_VOk ρ a v) : v.category = if a.1 = 2 then 2 else 1 := by
  obtain ⟨h1, h2, -⟩ := h
  rw [← h1] at h2 ⊢
  cases v <;> simp [sv_tag, Value.category] at h2 ⊢
theorem sv_cat1 {ρ : List Int} {a : SvA} {v : Value} (h : sv_VOk ρ a v) (ha : Nat.beq a.1 2 = false) : v.category = 1 := by
  rw [sv_cat h, if_neg (fun q => by rw [q] at ha; cases ha)]
theorem sv_cat2 {ρ : List Int} {a : SvA} {v : Value} (h : sv_VOk ρ a v) (ha : Nat.beq a.1 2 = true) : v.category = 2 := by
  rw [sv_cat h, if_pos (Nat.eq_of_beq_eq_true ha)]
theorem sv_get_ok {ρ : List Int} : ∀ {as : List (Nat × SvA)} {vs : List (Nat × Value)} {i : Nat} {a : SvA}, sv_LoOk ρ as vs → sv_get as i = some a → ∃ (k : Nat) (v : Value), vs[k]? = some (i, v) ∧ sv_VOk ρ a v
  | [], _, i, a, _, h => by simp [sv_get] at h
  | (j, b) :: t, [], i, a, hl, _ => hl.elim
  | (j, b) :: t, (j', v) :: vs, i, a, hl, h => by
    simp only [sv_get] at h
    cases hb : Nat.beq j i with
    | true =>
      rw [hb] at h
      simp only [cond_true, Option.some.injEq] at h
      subst h
      have e1 : j = i := Nat.eq_of_beq_eq_true hb
      have e2 : j = j' := hl.1
      refine ⟨0, v, ?_, hl.2.1⟩
      rw [← e1, e2]
      rfl
    | false =>
      rw [hb] at h
      simp only [cond_false] at h
      obtain ⟨k, u, h1, h2⟩ := sv_get_ok hl.2.2 h
      exact ⟨k + 1, u, h1, h2⟩
theorem sv_fl1_ok {ρ : List Int} {i : Nat} : ∀ {as : List (Nat × SvA)} {vs : List (Nat × Value)}, sv_LoOk ρ as vs → sv_LoOk ρ (sv_fl i false as) (vs.filter (fun q => !(q.1 == i) && !(q.1 + 1 == i && q.2.category == 2)))
  | [], [], _ => trivial
  | [], _ :: _, h => h.elim
  | _ :: _, [], h => h.elim
  | (j, a) :: t, (j', v) :: vs, h => by
    have e : j = j' := h.1
    subst e
    have ih := sv_fl1_ok (i := i) h.2.2
    have hc := sv_cat h.2.1
    simp only [sv_fl, List.filter]
    cases h1 : Nat.beq j i with
    | true =>
      have e1 : (j == i) = true := by rw [beq_iff_eq]; exact Nat.eq_of_beq_eq_true h1
      simp only [e1, Bool.not_true, Bool.false_and, Bool.true_or, cond_true]
      exact ih
    | false =>
      have e1 : (j == i) = false := by
        rw [beq_eq_false_iff_ne]
        intro q
        subst q
        rw [Nat.beq_refl] at h1
        cases h1
      cases h2 : Nat.beq (j + 1) i with
      | false =>
        have e2 : (j + 1 == i) = false := by
          rw [beq_eq_false_iff_ne]
          intro q
          subst q
          rw [Nat.beq_refl] at h2
          cases h2
        simp only [e1, e2, Bool.not_false, Bool.false_and, Bool.and_self, Bool.or_self, cond_false]
        exact ⟨rfl, h.2.1, ih⟩
      | true =>
        have e2 : (j + 1 == i) = true := by rw [beq_iff_eq]; exact Nat.eq_of_beq_eq_true h2
        cases h3 : Nat.beq a.1 2 with
        | true =>
          have e3 : v.category = 2 := sv_cat2 h.2.1 h3
          simp only [e1, e2, e3, Bool.not_false, Bool.true_and, Bool.false_and, Bool.or_true, cond_true, beq_self_eq_true, Bool.not_true]
          exact ih
        | false =>
          have e3 : v.category = 1 := sv_cat1 h.2.1 h3
          have e4 : ((1 : Nat) == 2) = false := rfl
          simp only [e1, e2, e3, e4, Bool.not_false, Bool.false_and, Bool.and_false, Bool.or_self, cond_false, Bool.and_self]
          exact ⟨rfl, h.2.1, ih⟩
theorem sv_fl2_ok {ρ : List Int} {i : Nat} : ∀ {as : List (Nat × SvA)} {vs : List (Nat × Value)}, sv_LoOk ρ as vs → sv_LoOk ρ (sv_fl i true as) (vs.filter (fun q => !(q.1 == i) && (!(q.1 == i + 1) && !(q.1 + 1 == i && q.2.category == 2))))
  | [], [], _ => trivial
  | [], _ :: _, h => h.elim
  | _ :: _, [], h => h.elim
  | (j, a) :: t, (j', v) :: vs, h => by
    have e : j = j' := h.1
    subst e
    have ih := sv_fl2_ok (i := i) h.2.2
    simp only [sv_fl, List.filter]
    have hbq : ∀ x y : Nat, Nat.beq x y = (x == y) := fun x y => by
      cases hx : Nat.beq x y with
      | true => exact (beq_iff_eq.mpr (Nat.eq_of_beq_eq_true hx)).symm
      | false => exact (beq_eq_false_iff_ne.mpr (fun q => by subst q; rw [Nat.beq_refl] at hx; cases hx)).symm
    have hcc : Nat.beq a.1 2 = (v.category == 2) := by
      cases h3 : Nat.beq a.1 2 with
      | true => rw [sv_cat2 h.2.1 h3]; rfl
      | false => rw [sv_cat1 h.2.1 h3]; rfl
    rw [hcc, hbq j i, hbq j (i + 1), hbq (j + 1) i]
    cases q1 : (j == i) <;> cases q2 : (j == i + 1) <;> cases q3 : (j + 1 == i && v.category == 2) <;> simp only [q1, q2, q3, Bool.true_and, Bool.or_self, Bool.or_true, Bool.true_or, Bool.or_false, Bool.false_or, Bool.not_false, Bool.not_true, Bool.and_self, Bool.false_and, Bool.and_false, cond_true, cond_false] <;> first | exact ih | exact ⟨rfl, h.2.1, ih⟩
section SVA
variable {p : Program} {l : Launch} {e : Env} {R : Room} {s : State} {m : MethodId} {args : Array Value} {below : List Frame} {meth : Method} {c : Code} {Q : State → Prop}
variable {P : Nat → List Nat → List Int → (Nat → Nat) → Heap → Prop} {D : va_G} {AC : Nat → ClassId} {kd : List SvK} {B0 : Nat} {κ0 : Nat → Nat} {mF mA : List Nat} {Px : List Int → Prop} {nL : Nat} {cc : ByteArray} {pc n : Nat} {w w' : List Nat} {S : SvS} {r : List (SvS × Nat)}
theorem sv_ld_ok {t j k : Nat} (h : sv_ld S t j k pc w = some (r, w')) (hk : ∀ q ∈ r, sv_Good p l e R s m args below meth c Q P D AC kd B0 κ0 mF mA Px nL q.1 q.2)
    (hr : ∀ (H : Heap) (locs : List Loc) (cells slots : Nat) (ls : Array Slot) (st : List Value) (v : Value), sv_tag v = t → ls[j]? = some (.val v) → W p l e R s m args below meth c H locs cells slots Q (F0 m (pc + k) ls (v :: st)) → W p l e R s m args below meth c H locs cells slots Q (F0 m pc ls st)) : sv_Good p l e R s m args below meth c Q P D AC kd B0 κ0 mF mA Px nL S pc := by
  unfold sv_ld at h
  cases hg : sv_get S.2.1 j with
  | none => rw [hg] at h; simp at h
  | some a =>
    rw [hg] at h
    cases hb : Nat.beq a.1 t with
    | false => simp only [hb, cond_false] at h; cases h
    | true =>
      simp only [hb, cond_true, Option.some.injEq, Prod.mk.injEq] at h
      obtain ⟨rfl, -⟩ := h
      intro κ H locs ρ ls st hI hP hS
      obtain ⟨lv, h1, h2⟩ := hS.2.1
      obtain ⟨i, v, h3, h4⟩ := sv_get_ok h2 hg
      exact hr H locs _ _ ls st v (h4.1.trans (Nat.eq_of_beq_eq_true hb)) (lv_at h1 i h3) (hk _ List.mem_cons_self κ H locs ρ ls _ hI hP (sv_stk_ok hS hS.2.2.1 h4))
theorem sv_sto_ok {t j k : Nat} (h : sv_sto nL S t j k pc w = some (r, w')) (hk : ∀ q ∈ r, sv_Good p l e R s m args below meth c Q P D AC kd B0 κ0 mF mA Px nL q.1 q.2)
    (hr : ∀ (H : Heap) (locs : List Loc) (cells slots : Nat) (ls : Array Slot) (lv : List (Nat × Value)) (st : List Value) (v : Value), sv_tag v = t → lv_has ls nL lv → (if t = 2 then j + 1 < nL else j < nL) →
      (∀ ls', lv_has ls' nL ((j, v) :: (if t = 2 then lv.filter (fun q => !(q.1 == j) && (!(q.1 == j + 1) && !(q.1 + 1 == j && q.2.category == 2))) else lv.filter (fun q => !(q.1 == j) && !(q.1 + 1 == j && q.2.category == 2)))) → W p l e R s m args below meth c H locs cells slots Q (F0 m (pc + k) ls' st)) → W p l e R s m args below meth c H locs cells slots Q (F0 m pc ls (v :: st))) : sv_Good p l e R s m args below meth c Q P D AC kd B0 κ0 mF mA Px nL S pc := by
  unfold sv_sto at h
  split at h
  · rename_i a rest hst
    cases hb : Nat.beq a.1 t with
    | false => simp only [hb, Bool.false_and, cond_false] at h; cases h
    | true =>
      have ht : a.1 = t := Nat.eq_of_beq_eq_true hb
      cases hl : (bif Nat.beq t 2 then Nat.blt (j + 1) nL else Nat.blt j nL) with
      | false => simp only [hb, hl, Bool.true_and, cond_false] at h; cases h
      | true =>
        simp only [hb, hl, Bool.true_and, cond_true, Option.some.injEq, Prod.mk.injEq] at h
        obtain ⟨rfl, -⟩ := h
        intro κ H locs ρ ls st hI hP hS
        obtain ⟨hb1, ⟨lv, h1, h2⟩, h3, h4⟩ := hS
        rw [hst] at h3
        obtain ⟨v, vs, rfl, h5, h6⟩ := sv_StOk_cons h3
        refine hr H locs _ _ ls lv vs v (h5.1.trans ht) h1 ?_ (fun ls' hls => hk _ List.mem_cons_self κ H locs ρ ls' vs hI hP ⟨hb1, ⟨_, hls, rfl, h5, ?_⟩, h6, h4⟩)
        · cases h2' : Nat.beq t 2 with
          | true =>
            rw [h2', cond_true] at hl
            rw [if_pos (Nat.eq_of_beq_eq_true h2')]
            exact Nat.lt_of_lt_of_le (Nat.lt_succ_self _) (Nat.le_of_ble_eq_true hl)
          | false =>
            rw [h2', cond_false] at hl
            rw [if_neg (fun q => by rw [q] at h2'; cases h2')]
            exact Nat.lt_of_lt_of_le (Nat.lt_succ_self _) (Nat.le_of_ble_eq_true hl)
        · cases h2' : Nat.beq t 2 with
          | true =>
            rw [if_pos (Nat.eq_of_beq_eq_true h2')]
            exact sv_fl2_ok h2
          | false =>
            rw [if_neg (fun q => by rw [q] at h2'; cases h2')]
            exact sv_fl1_ok h2
  · simp at h
theorem sv_to_ok {stk : List SvA} {k : Nat} (h : sv_to S stk n k pc w = some (r, w')) (hk : ∀ q ∈ r, sv_Good p l e R s m args below meth c Q P D AC kd B0 κ0 mF mA Px nL q.1 q.2)
    (hr : n = k → ∀ (κ : Nat → Nat) (H : Heap) (locs : List Loc) (cells slots : Nat) (ρ : List Int) (ls : Array Slot) (st : List Value), sv_StOk ρ S.2.2.1 st → (∀ st', sv_StOk ρ stk st' → W p l e R s m args below meth c H locs cells slots Q (F0 m (pc + k) ls st')) → W p l e R s m args below meth c H locs cells slots Q (F0 m pc ls st)) : sv_Good p l e R s m args below meth c Q P D AC kd B0 κ0 mF mA Px nL S pc := by
  unfold sv_to at h
  cases hb : Nat.beq n k with
  | false => simp only [hb, cond_false] at h; cases h
  | true =>
    simp only [hb, cond_true, Option.some.injEq, Prod.mk.injEq] at h
    obtain ⟨rfl, -⟩ := h
    intro κ H locs ρ ls st hI hP hS
    exact hr (Nat.eq_of_beq_eq_true hb) κ H locs _ _ ρ ls st hS.2.2.1 (fun st' hst => hk _ List.mem_cons_self κ H locs ρ ls st' hI hP (sv_pop_ok hS hst))
theorem sv_A_ok (hx : p.tables.exec = Jvm.exec) (hb : c.code = cc) {i : Instr} (hd : decode cc pc = .ok (i, n)) (h : sv_A nL S pc i n w = some (r, w')) (hk : ∀ q ∈ r, sv_Good p l e R s m args below meth c Q P D AC kd B0 κ0 mF mA Px nL q.1 q.2) : sv_Good p l e R s m args below meth c Q P D AC kd B0 κ0 mF mA Px nL S pc := by
  unfold sv_A at h
  split at h
  · rename_i k
    cases hq : (sv_le (-1) k && sv_le k 5) with
    | false => simp only [hq, cond_false] at h; cases h
    | true =>
      simp only [hq, cond_true] at h
      simp only [Bool.and_eq_true, sv_le_iff] at hq
      refine sv_to_ok h hk (fun hn κ H locs cells slots ρ ls st hst kk => ?_)
      subst hn
      exact lv_iconst hx hb hd rfl (kk _ ⟨sv_mkV1 (by rw [sv_ev_k, Int32.toInt_ofInt_of_le (by omega) (by omega)]), hst⟩)
  · rename_i k
    cases hq : (sv_le (-128) k && sv_le k 127) with
    | false => simp only [hq, cond_false] at h; cases h
    | true =>
      simp only [hq, cond_true] at h
      simp only [Bool.and_eq_true, sv_le_iff] at hq
      refine sv_to_ok h hk (fun hn κ H locs cells slots ρ ls st hst kk => ?_)
      subst hn
      exact lv_bipush hx hb hd rfl (kk _ ⟨sv_mkV1 (by rw [sv_ev_k, Int8.toInt_toInt32, Int8.toInt_ofInt_of_le (by omega) (by omega)]), hst⟩)
  · rename_i k
    cases hq : (sv_le (-32768) k && sv_le k 32767) with
    | false => simp only [hq, cond_false] at h; cases h
    | true =>
      simp only [hq, cond_true] at h
      simp only [Bool.and_eq_true, sv_le_iff] at hq
      refine sv_to_ok h hk (fun hn κ H locs cells slots ρ ls st hst kk => ?_)
      subst hn
      exact lv_sipush hx hb hd rfl (kk _ ⟨sv_mkV1 (by rw [sv_ev_k, Int16.toInt_toInt32, Int16.toInt_ofInt_of_le (by omega) (by omega)]), hst⟩)
  · rename_i f
    refine sv_to_ok h hk (fun hn κ H locs cells slots ρ ls st hst kk => ?_)
    subst hn
    refine lv_lconst hx hb hd rfl (kk _ ⟨sv_mkV2 ?_, hst⟩)
    rw [sv_ev_k, Int64.toInt_ofNat_of_lt (by have := f.isLt; omega)]
    rfl
  · refine sv_to_ok h hk (fun hn κ H locs cells slots ρ ls st hst kk => ?_)
    subst hn
    exact lv_null hx hb hd (kk _ ⟨sv_mkV3n (sv_ev_k _ _), hst⟩)
  · rename_i f
    cases hq : Nat.beq n 1 with
    | false => simp only [hq, cond_false] at h; cases h
    | true =>
      simp only [hq, cond_true] at h
      have hn := Nat.eq_of_beq_eq_true hq
      subst hn
      refine sv_ld_ok h hk (fun H locs cells slots ls st v hv hl kk => ?_)
      obtain ⟨x, rfl, -⟩ := sv_val1 hv
      exact lv_iload_n hx hb hd rfl hl kk
  · rename_i f
    cases hq : Nat.beq n 2 with
    | false => simp only [hq, cond_false] at h; cases h
    | true =>
      simp only [hq, cond_true] at h
      have hn := Nat.eq_of_beq_eq_true hq
      subst hn
      refine sv_ld_ok h hk (fun H locs cells slots ls st v hv hl kk => ?_)
      obtain ⟨x, rfl, -⟩ := sv_val1 hv
      exact lv_iload hx hb hd hl kk
  · rename_i f
    cases hq : Nat.beq n 1 with
    | false => simp only [hq, cond_false] at h; cases h
    | true =>
      simp only [hq, cond_true] at h
      have hn := Nat.eq_of_beq_eq_true hq
      subst hn
      refine sv_ld_ok h hk (fun H locs cells slots ls st v hv hl kk => ?_)
      obtain ⟨x, rfl, -⟩ := sv_val2 hv
      exact lv_lload_n hx hb hd rfl hl kk
  · rename_i f
    cases hq : Nat.beq n 2 with
    | false => simp only [hq, cond_false] at h; cases h
    | true =>
      simp only [hq, cond_true] at h
      have hn := Nat.eq_of_beq_eq_true hq
      subst hn
      refine sv_ld_ok h hk (fun H locs cells slots ls st v hv hl kk => ?_)
      obtain ⟨x, rfl, -⟩ := sv_val2 hv
      exact lv_lload hx hb hd hl kk
  · rename_i f
    cases hq : Nat.beq n 1 with
    | false => simp only [hq, cond_false] at h; cases h
    | true =>
      simp only [hq, cond_true] at h
      have hn := Nat.eq_of_beq_eq_true hq
      subst hn
      refine sv_ld_ok h hk (fun H locs cells slots ls st v hv hl kk => ?_)
      rcases sv_val3 hv with ⟨rfl, -⟩ | ⟨x, rfl, -⟩
      · exact lv_aload_nN hx hb hd rfl hl kk
      · exact lv_aload_n hx hb hd rfl hl kk
  · rename_i f
    cases hq : Nat.beq n 2 with
    | false => simp only [hq, cond_false] at h; cases h
    | true =>
      simp only [hq, cond_true] at h
      have hn := Nat.eq_of_beq_eq_true hq
      subst hn
      refine sv_ld_ok h hk (fun H locs cells slots ls st v hv hl kk => ?_)
      rcases sv_val3 hv with ⟨rfl, -⟩ | ⟨x, rfl, -⟩
      · exact lv_aloadN hx hb hd hl kk
      · exact lv_aload hx hb hd hl kk
  · rename_i f
    cases hq : Nat.beq n 1 with
    | false => simp only [hq, cond_false] at h; cases h
    | true =>
      simp only [hq, cond_true] at h
      have hn := Nat.eq_of_beq_eq_true hq
      subst hn
      refine sv_sto_ok h hk (fun H locs cells slots ls lv st v hv hl hlt kk => ?_)
      obtain ⟨x, rfl, -⟩ := sv_val1 hv
      exact lv_istore_n hx hb hd rfl hl hlt rfl kk
  · rename_i f
    cases hq : Nat.beq n 2 with
    | false => simp only [hq, cond_false] at h; cases h
    | true =>
      simp only [hq, cond_true] at h
      have hn := Nat.eq_of_beq_eq_true hq
      subst hn
      refine sv_sto_ok h hk (fun H locs cells slots ls lv st v hv hl hlt kk => ?_)
      obtain ⟨x, rfl, -⟩ := sv_val1 hv
      exact lv_istore hx hb hd hl hlt rfl kk
  · rename_i f
    cases hq : Nat.beq n 1 with
    | false => simp only [hq, cond_false] at h; cases h
    | true =>
      simp only [hq, cond_true] at h
      have hn := Nat.eq_of_beq_eq_true hq
      subst hn
      refine sv_sto_ok h hk (fun H locs cells slots ls lv st v hv hl hlt kk => ?_)
      obtain ⟨x, rfl, -⟩ := sv_val2 hv
      exact lv_lstore_n hx hb hd rfl hl hlt rfl kk
  · rename_i f
    cases hq : Nat.beq n 2 with
    | false => simp only [hq, cond_false] at h; cases h
    | true =>
      simp only [hq, cond_true] at h
      have hn := Nat.eq_of_beq_eq_true hq
      subst hn
      refine sv_sto_ok h hk (fun H locs cells slots ls lv st v hv hl hlt kk => ?_)
      obtain ⟨x, rfl, -⟩ := sv_val2 hv
      exact lv_lstore hx hb hd hl hlt rfl kk
  · rename_i f
    cases hq : Nat.beq n 1 with
    | false => simp only [hq, cond_false] at h; cases h
    | true =>
      simp only [hq, cond_true] at h
      have hn := Nat.eq_of_beq_eq_true hq
      subst hn
      refine sv_sto_ok h hk (fun H locs cells slots ls lv st v hv hl hlt kk => ?_)
      rcases sv_val3 hv with ⟨rfl, -⟩ | ⟨x, rfl, -⟩
      · exact lv_astore_nN hx hb hd rfl hl hlt rfl kk
      · exact lv_astore_n hx hb hd rfl hl hlt rfl kk
  · rename_i f
    cases hq : Nat.beq n 2 with
    | false => simp only [hq, cond_false] at h; cases h
    | true =>
      simp only [hq, cond_true] at h
      have hn := Nat.eq_of_beq_eq_true hq
      subst hn
      refine sv_sto_ok h hk (fun H locs cells slots ls lv st v hv hl hlt kk => ?_)
      rcases sv_val3 hv with ⟨rfl, -⟩ | ⟨x, rfl, -⟩
      · exact lv_astoreN hx hb hd hl hlt rfl kk
      · exact lv_astore hx hb hd hl hlt rfl kk
  · split at h
    · rename_i a rest hst
      cases hq : Nat.beq a.1 2 with
      | true => simp only [hq, cond_true] at h; cases h
      | false =>
        simp only [hq, cond_false] at h
        refine sv_to_ok h hk (fun hn κ H locs cells slots ρ ls st hs kk => ?_)
        subst hn
        rw [hst] at hs
        obtain ⟨v, vs, rfl, h5, h6⟩ := sv_StOk_cons hs
        exact lv_dup hx hb hd (sv_cat1 h5 hq) (kk _ ⟨h5, h5, h6⟩)
    · simp at h
  · split at h
    · rename_i a b rest hst
      cases hq : (Nat.beq a.1 2 || Nat.beq b.1 2) with
      | true => simp only [hq, cond_true] at h; cases h
      | false =>
        simp only [hq, cond_false] at h
        rw [Bool.or_eq_false_iff] at hq
        refine sv_to_ok h hk (fun hn κ H locs cells slots ρ ls st hs kk => ?_)
        subst hn
        rw [hst] at hs
        obtain ⟨v, vs, rfl, h5, h6⟩ := sv_StOk_cons hs
        obtain ⟨v2, vs2, rfl, h7, h8⟩ := sv_StOk_cons h6
        exact lv_dup_x1 hx hb hd (sv_cat1 h5 hq.1) (sv_cat1 h7 hq.2) (kk _ ⟨h5, h7, h5, h8⟩)
    · simp at h
  · split at h
    · rename_i a b rest hst
      cases hq : Nat.beq a.1 2 with
      | true =>
        simp only [hq, cond_true] at h
        refine sv_to_ok h hk (fun hn κ H locs cells slots ρ ls st hs kk => ?_)
        subst hn
        rw [hst] at hs
        obtain ⟨v, vs, rfl, h5, h6⟩ := sv_StOk_cons hs
        exact lv_dup2_2 hx hb hd (sv_cat2 h5 hq) (kk _ ⟨h5, h5, h6⟩)
      | false =>
        simp only [hq, cond_false] at h
        cases hq2 : Nat.beq b.1 2 with
        | true => simp only [hq2, cond_true] at h; cases h
        | false =>
          simp only [hq2, cond_false] at h
          refine sv_to_ok h hk (fun hn κ H locs cells slots ρ ls st hs kk => ?_)
          subst hn
          rw [hst] at hs
          obtain ⟨v, vs, rfl, h5, h6⟩ := sv_StOk_cons hs
          obtain ⟨v2, vs2, rfl, h7, h8⟩ := sv_StOk_cons h6
          exact lv_dup2_11 hx hb hd (sv_cat1 h5 hq) (sv_cat1 h7 hq2) (kk _ ⟨h5, h7, h5, h7, h8⟩)
    · rename_i a hst
      cases hq : Nat.beq a.1 2 with
      | false => simp only [hq, cond_false] at h; cases h
      | true =>
        simp only [hq, cond_true] at h
        refine sv_to_ok h hk (fun hn κ H locs cells slots ρ ls st hs kk => ?_)
        subst hn
        rw [hst] at hs
        obtain ⟨v, vs, rfl, h5, h6⟩ := sv_StOk_cons hs
        exact lv_dup2_2 hx hb hd (sv_cat2 h5 hq) (kk _ ⟨h5, h5, h6⟩)
    · simp at h
  · split at h
    · rename_i a rest hst
      cases hq : Nat.beq a.1 2 with
      | true => simp only [hq, cond_true] at h; cases h
      | false =>
        simp only [hq, cond_false] at h
        refine sv_to_ok h hk (fun hn κ H locs cells slots ρ ls st hs kk => ?_)
        subst hn
        rw [hst] at hs
        obtain ⟨v, vs, rfl, h5, h6⟩ := sv_StOk_cons hs
        exact lv_pop hx hb hd (sv_cat1 h5 hq) (kk _ h6)
    · simp at h
  · split at h
    · rename_i a rest hst
      cases hq : Nat.beq a.1 2 with
      | false => simp only [hq, cond_false] at h; cases h
      | true =>
        simp only [hq, cond_true] at h
        refine sv_to_ok h hk (fun hn κ H locs cells slots ρ ls st hs kk => ?_)
        subst hn
        rw [hst] at hs
        obtain ⟨v, vs, rfl, h5, h6⟩ := sv_StOk_cons hs
        exact lv_pop2_2 hx hb hd (sv_cat2 h5 hq) (kk _ h6)
    · simp at h
  · rename_i o
    cases hq : (Nat.beq n 3 && sv_ge0 (Int.add (Int.ofNat pc) o)) with
    | false => simp only [hq, cond_false] at h; cases h
    | true =>
      simp only [hq, cond_true, Option.some.injEq, Prod.mk.injEq] at h
      obtain ⟨rfl, -⟩ := h
      rw [Bool.and_eq_true, sv_ge0_iff] at hq
      have hn := Nat.eq_of_beq_eq_true hq.1
      subst hn
      intro κ H locs ρ ls st hI hP hS
      exact lv_goto hx hb hd (tgt := (Int.add (Int.ofNat pc) o).toNat) (Int.toNat_of_nonneg hq.2).symm (hk _ List.mem_cons_self κ H locs ρ ls st hI hP hS)
  · simp at h
end SVA
end
section
-- ===== plain facts of counting =====
theorem sv_bvnn {n : Nat} {x : BitVec n} (h : 0 ≤ x.toInt) : x.toInt = (x.toNat : Int) ∧ 2 * x.toNat < 2 ^ n := by
  have h1 := BitVec.toInt_eq_toNat_cond x
  have h2 := x.isLt
  by_cases h3 : 2 * x.toNat < 2 ^ n
  · rw [if_pos h3] at h1
    exact ⟨h1, h3⟩
  · rw [if_neg h3] at h1
    omega
theorem sv_bvof {n : Nat} {x : BitVec n} (h : 2 * x.toNat < 2 ^ n) : x.toInt = (x.toNat : Int) := by
  rw [BitVec.toInt_eq_toNat_cond, if_pos h]
theorem sv_bvand {n : Nat} (x y : BitVec n) (h : 0 ≤ y.toInt) : 0 ≤ (x &&& y).toInt ∧ (x &&& y).toInt ≤ y.toInt := by
  obtain ⟨h1, h2⟩ := sv_bvnn h
  have h3 : (x &&& y).toNat ≤ y.toNat := by
    rw [BitVec.toNat_and]
    exact Nat.and_le_right
  have h4 := sv_bvof (x := x &&& y) (by omega)
  omega
theorem sv_bvand2 {n : Nat} (x y : BitVec n) (h : 0 ≤ x.toInt) : 0 ≤ (x &&& y).toInt ∧ (x &&& y).toInt ≤ x.toInt := by
  obtain ⟨h1, h2⟩ := sv_bvnn h
  have h3 : (x &&& y).toNat ≤ x.toNat := by
    rw [BitVec.toNat_and]
    exact Nat.and_le_left
  have h4 := sv_bvof (x := x &&& y) (by omega)
  omega
theorem sv_bvor {n k : Nat} (hn : 0 < n) (x y : BitVec n) (hx : 0 ≤ x.toInt) (hy : 0 ≤ y.toInt) (h1 : x.toInt < ((2 ^ k : Nat) : Int)) (h2 : y.toInt < ((2 ^ k : Nat) : Int)) : 0 ≤ (x ||| y).toInt ∧ (x ||| y).toInt < ((2 ^ k : Nat) : Int) := by
  obtain ⟨a1, a2⟩ := sv_bvnn hx
  obtain ⟨b1, b2⟩ := sv_bvnn hy
  have h3 : (x ||| y).toNat < 2 ^ k := by
    rw [BitVec.toNat_or]
    exact Nat.or_lt_two_pow (by omega) (by omega)
  have h5 : 2 * (x ||| y).toNat < 2 ^ n := by
    rw [BitVec.toNat_or]
    obtain ⟨j, rfl⟩ : ∃ j, n = j + 1 := ⟨n - 1, by omega⟩
    have e : 2 ^ (j + 1) = 2 * 2 ^ j := by rw [Nat.pow_succ]; omega
    have h6 : x.toNat ||| y.toNat < 2 ^ j := Nat.or_lt_two_pow (by omega) (by omega)
    omega
  have h4 := sv_bvof h5
  omega
theorem sv_bvxor {n k : Nat} (hn : 0 < n) (x y : BitVec n) (hx : 0 ≤ x.toInt) (hy : 0 ≤ y.toInt) (h1 : x.toInt < ((2 ^ k : Nat) : Int)) (h2 : y.toInt < ((2 ^ k : Nat) : Int)) : 0 ≤ (x ^^^ y).toInt ∧ (x ^^^ y).toInt < ((2 ^ k : Nat) : Int) := by
  obtain ⟨a1, a2⟩ := sv_bvnn hx
  obtain ⟨b1, b2⟩ := sv_bvnn hy
  have h3 : (x ^^^ y).toNat < 2 ^ k := by
    rw [BitVec.toNat_xor]
    exact Nat.xor_lt_two_pow (by omega) (by omega)
  have h5 : 2 * (x ^^^ y).toNat < 2 ^ n := by
    rw [BitVec.toNat_xor]
    obtain ⟨j, rfl⟩ : ∃ j, n = j + 1 := ⟨n - 1, by omega⟩
    have e : 2 ^ (j + 1) = 2 * 2 ^ j := by rw [Nat.pow_succ]; omega
    have h6 : x.toNat ^^^ y.toNat < 2 ^ j := Nat.xor_lt_two_pow (by omega) (by omega)
    omega
  have h4 := sv_bvof h5
  omega
theorem sv_bvors {n k : Nat} (hn : 0 < n) (x y : BitVec n) (hx : 0 ≤ x.toInt) (hy : 0 ≤ y.toInt) (a : Nat) (h1 : x.toInt = ((2 ^ k * a : Nat) : Int)) (h2 : y.toInt < ((2 ^ k : Nat) : Int)) (h3 : x.toInt + y.toInt < ((2 ^ (n - 1) : Nat) : Int)) : (x ||| y).toInt = x.toInt + y.toInt := by
  obtain ⟨a1, a2⟩ := sv_bvnn hx
  obtain ⟨b1, b2⟩ := sv_bvnn hy
  have e1 : x.toNat = 2 ^ k * a := by omega
  have e2 : (x ||| y).toNat = x.toNat + y.toNat := by
    rw [BitVec.toNat_or, e1]
    exact (Nat.two_pow_add_eq_or_of_lt (by omega) a).symm
  obtain ⟨j, rfl⟩ : ∃ j, n = j + 1 := ⟨n - 1, by omega⟩
  have e : 2 ^ (j + 1) = 2 * 2 ^ j := by rw [Nat.pow_succ]; omega
  rw [Nat.add_sub_cancel] at h3
  have h4 := sv_bvof (x := x ||| y) (by omega)
  omega
/-- a mask of the lowest bits: the rest by the power -/
theorem sv_bvmask {n k : Nat} (x y : BitVec n) (hk : k < n) (hy : y.toInt = ((2 ^ k - 1 : Nat) : Int)) : (x &&& y).toInt = x.toInt % ((2 ^ k : Nat) : Int) := by
  obtain ⟨b1, b2⟩ := sv_bvnn (x := y) (by omega)
  have e1 : y.toNat = 2 ^ k - 1 := by omega
  have e2 : (x &&& y).toNat = x.toNat % 2 ^ k := by
    rw [BitVec.toNat_and, e1, Nat.and_two_pow_sub_one_eq_mod]
  have hp : 0 < 2 ^ k := Nat.two_pow_pos k
  have h3 : x.toNat % 2 ^ k < 2 ^ k := Nat.mod_lt _ hp
  have h4 := sv_bvof (x := x &&& y) (by omega)
  rw [h4, e2, BitVec.toInt_eq_toNat_cond]
  have hd : (2 : Nat) ^ n = 2 ^ k * 2 ^ (n - k) := by rw [← Nat.pow_add]; congr 1; omega
  split
  · simp
  · rw [hd]
    have e3 : ((x.toNat : Int) - ((2 ^ k * 2 ^ (n - k) : Nat) : Int)) = (x.toNat : Int) + ((2 ^ k : Nat) : Int) * (-((2 ^ (n - k) : Nat) : Int)) := by
      rw [Int.mul_neg, Int.natCast_mul]
      omega
    rw [e3, Int.add_mul_emod_self_left]
    simp
theorem sv_rem32 (x y : Int32) (h : 0 < y.toInt) : (x - x / y * y).toInt = x.toInt.tmod y.toInt := by
  have h1 : (x / y).toInt = x.toInt.tdiv y.toInt := Int32.toInt_div_of_ne_right x y (fun q => by
    rw [q] at h
    have e : Int32.toInt (-1) = -1 := by decide
    omega)
  have h2 := Int.mul_tdiv_add_tmod x.toInt y.toInt
  have h3 := Int.tmod_lt_of_pos x.toInt h
  have h4 := Int.lt_tmod_of_pos x.toInt h
  have h5 := (sv_r1 y).2
  have e2 : sv_hi 1 = 2147483647 := rfl
  rw [e2] at h5
  rw [Int32.toInt_sub, Int32.toInt_mul, Int.sub_bmod_bmod, h1]
  have h6 : x.toInt - x.toInt.tdiv y.toInt * y.toInt = x.toInt.tmod y.toInt := by
    rw [Int.mul_comm]
    omega
  rw [h6]
  exact Int.bmod_eq_of_le_mul_two (by omega) (by omega)
theorem sv_rem64 (x y : Int64) (h : 0 < y.toInt) : (x - x / y * y).toInt = x.toInt.tmod y.toInt := by
  have h1 : (x / y).toInt = x.toInt.tdiv y.toInt := Int64.toInt_div_of_ne_right x y (fun q => by
    rw [q] at h
    have e : Int64.toInt (-1) = -1 := by decide
    omega)
  have h2 := Int.mul_tdiv_add_tmod x.toInt y.toInt
  have h3 := Int.tmod_lt_of_pos x.toInt h
  have h4 := Int.lt_tmod_of_pos x.toInt h
  have h5 := (sv_r2 y).2
  have e2 : sv_hi 2 = 9223372036854775807 := rfl
  rw [e2] at h5
  rw [Int64.toInt_sub, Int64.toInt_mul, Int.sub_bmod_bmod, h1]
  have h6 : x.toInt - x.toInt.tdiv y.toInt * y.toInt = x.toInt.tmod y.toInt := by
    rw [Int.mul_comm]
    omega
  rw [h6]
  exact Int.bmod_eq_of_le_mul_two (by omega) (by omega)
theorem sv_amt {y : Int32} {k : Nat} (hk : k < 32) (hy : y.toInt = (k : Int)) : y = nI k := by
  rw [← Int32.toInt_inj, hy, nI_toInt (by omega)]
theorem sv_amtS : ∀ k, k < 32 → (((nI k) &&& 31).toBitVec.smod 32).toNat = k := by decide +kernel
theorem sv_amtU : ∀ k, k < 32 → (((nI k).toUInt32 &&& Int32.toUInt32 31).toBitVec % 32).toNat = k := by decide +kernel
theorem sv_shl32 (x y : Int32) {k : Nat} (hk : k < 32) (hy : y.toInt = (k : Int)) : (x <<< (y &&& 31)).toInt = (x.toInt * ((2 ^ k : Nat) : Int)).bmod (2 ^ 32) := by
  have e := sv_amt hk hy
  subst e
  have h1 := pk_shl x (nI k &&& 31) k (sv_amtS k hk)
  have h2 : (x <<< (nI k &&& 31)).toInt = Int.bmod ((x <<< (nI k &&& 31)).toBitVec.toNat : Int) (2 ^ 32) := BitVec.toInt_eq_toNat_bmod _
  have h3 : x.toInt = Int.bmod (x.toBitVec.toNat : Int) (2 ^ 32) := BitVec.toInt_eq_toNat_bmod _
  rw [h2, h1, h3, Int.bmod_mul_bmod, Int.natCast_emod, Int.natCast_mul]
  exact Int.emod_bmod _ _
theorem sv_shr32 (x y : Int32) {k : Nat} (hk : k < 32) (hy : y.toInt = (k : Int)) : (x >>> (y &&& 31)).toInt = x.toInt / ((2 ^ k : Nat) : Int) := by
  have e := sv_amt hk hy
  subst e
  rw [pk_shr x (nI k &&& 31) k (sv_amtS k hk), Int.shiftRight_eq_div_pow]
theorem sv_ush32 (x y : Int32) {k : Nat} (hk : k < 32) (hy : y.toInt = (k : Int)) (hx : 0 ≤ x.toInt) : ((x.toUInt32 >>> (y.toUInt32 &&& Int32.toUInt32 31)).toInt32).toInt = x.toInt / ((2 ^ k : Nat) : Int) := by
  have e := sv_amt hk hy
  subst e
  have h1 := pk_ushr x (nI k) k (sv_amtU k hk)
  obtain ⟨a1, a2⟩ := sv_bvnn (x := x.toBitVec) hx
  have hp : 0 < 2 ^ k := Nat.two_pow_pos k
  have h2 : x.toBitVec.toNat / 2 ^ k ≤ x.toBitVec.toNat := Nat.div_le_self _ _
  have h3 := sv_bvof (x := ((x.toUInt32 >>> ((nI k).toUInt32 &&& Int32.toUInt32 31)).toInt32).toBitVec) (by rw [h1]; omega)
  have h4 : x.toInt = (x.toBitVec.toNat : Int) := a1
  show (((x.toUInt32 >>> ((nI k).toUInt32 &&& Int32.toUInt32 31)).toInt32).toBitVec).toInt = _
  rw [h3, h1, h4, Int.natCast_ediv]
theorem sv_ush32b (x y : Int32) {k : Nat} (hk : k < 32) (h0 : 0 < k) (hy : y.toInt = (k : Int)) : 0 ≤ ((x.toUInt32 >>> (y.toUInt32 &&& Int32.toUInt32 31)).toInt32).toInt ∧ ((x.toUInt32 >>> (y.toUInt32 &&& Int32.toUInt32 31)).toInt32).toInt < ((2 ^ (32 - k) : Nat) : Int) := by
  have e := sv_amt hk hy
  subst e
  have h1 := pk_ushr x (nI k) k (sv_amtU k hk)
  have hx := x.toBitVec.isLt
  have hp : 0 < 2 ^ k := Nat.two_pow_pos k
  have hd : (2 : Nat) ^ 32 = 2 ^ (32 - k) * 2 ^ k := by rw [← Nat.pow_add]; congr 1; omega
  have h2 : x.toBitVec.toNat / 2 ^ k < 2 ^ (32 - k) := Nat.div_lt_of_lt_mul (by rw [Nat.mul_comm, ← hd]; exact hx)
  have h5 : (2 : Nat) ^ (32 - k) ≤ 2 ^ 31 := Nat.pow_le_pow_right (by omega) (by omega)
  have h3 := sv_bvof (x := ((x.toUInt32 >>> ((nI k).toUInt32 &&& Int32.toUInt32 31)).toInt32).toBitVec) (by rw [h1]; omega)
  show 0 ≤ (((x.toUInt32 >>> ((nI k).toUInt32 &&& Int32.toUInt32 31)).toInt32).toBitVec).toInt ∧ (((x.toUInt32 >>> ((nI k).toUInt32 &&& Int32.toUInt32 31)).toInt32).toBitVec).toInt < _
  rw [h3, h1]
  omega
theorem sv_amtL : ∀ k, k < 64 → (((nI k).toInt64 &&& 63).toBitVec.smod 64).toNat = k := by decide +kernel
theorem sv_shr64 (x : Int64) (y : Int32) {k : Nat} (hk : k < 64) (hy : y.toInt = (k : Int)) : (x >>> (y.toInt64 &&& 63)).toInt = x.toInt / ((2 ^ k : Nat) : Int) := by
  have e : y = nI k := by rw [← Int32.toInt_inj, hy, nI_toInt (by omega)]
  subst e
  show (x.toBitVec.sshiftRight (((nI k).toInt64 &&& 63).toBitVec.smod 64).toNat).toInt = _
  rw [sv_amtL k hk, BitVec.toInt_sshiftRight, Int.shiftRight_eq_div_pow]
  rfl
end
section
def sv_mkf : List SvL → List SvF → List SvF
  | [], l => l
  | e :: t, l => (0, [], [e]) :: sv_mkf t l
/-- a new number with bounds and rows of its own -/
def sv_freshF (S : SvS) (t : Nat) (rest : List SvA) (lo hi : Int) (fs : List SvL) : SvS := (S.1 ++ [(lo, some hi)], S.2.1, (t, sv_v S.1.length) :: rest, sv_mkf fs S.2.2.2)
def sv_min (a b : Int) : Int := bif sv_le a b then a else b
def sv_max (a b : Int) : Int := bif sv_le a b then b else a
/-- the one value that a form has -/
def sv_cst (b : List SvB) (e : SvL) : Option Int := match sv_lb b e with
  | some x => match sv_ub b e with
    | some y => bif sv_ieq x y then some x else none
    | none => none
  | none => none
def sv_divk (t : Nat) (S : SvS) (rest : List SvA) (e : SvL) (k : Int) : Option SvS := match sv_lb S.1 e with
  | some lo => match sv_ub S.1 e with
    | some hi => bif sv_ge0 lo then some (sv_freshF S t rest (Int.ediv lo k) (Int.ediv hi k) [sv_sub e (sv_sc k (sv_v S.1.length)), sv_addc (sv_sub (sv_sc k (sv_v S.1.length)) e) (Int.sub k 1)])
      else some (sv_freshF S t rest (sv_lo t) (sv_hi t) [sv_addc (sv_sub e (sv_sc k (sv_v S.1.length))) (Int.sub k 1), sv_addc (sv_sub (sv_sc k (sv_v S.1.length)) e) (Int.sub k 1)])
    | none => none
  | none => none
def sv_remk (t : Nat) (S : SvS) (rest : List SvA) (e : SvL) (k : Int) : Option SvS := match sv_lb S.1 e with
  | some lo => bif sv_ge0 lo then (match sv_ub S.1 e with
    | some hi => some ((S.1 ++ [(Int.ediv lo k, some (Int.ediv hi k))]) ++ [(0, some (Int.sub k 1))], S.2.1, (t, sv_v (S.1.length + 1)) :: rest,
        sv_mkf [sv_sub (sv_sub e (sv_sc k (sv_v S.1.length))) (sv_v (S.1.length + 1)), sv_sub (sv_v (S.1.length + 1)) (sv_sub e (sv_sc k (sv_v S.1.length)))] S.2.2.2)
    | none => none) else some (sv_fresh S t rest (Int.sub 1 k) (Int.sub k 1))
  | none => none
/-- floor by a power -/
def sv_shrk (t : Nat) (S : SvS) (rest : List SvA) (e : SvL) (k : Nat) : Option SvS := match sv_lb S.1 e with
  | some lo => match sv_ub S.1 e with
    | some hi => some (sv_freshF S t rest (Int.ediv lo (Int.ofNat (2 ^ k))) (Int.ediv hi (Int.ofNat (2 ^ k))) [sv_sub e (sv_sc (Int.ofNat (2 ^ k)) (sv_v S.1.length)), sv_addc (sv_sub (sv_sc (Int.ofNat (2 ^ k)) (sv_v S.1.length)) e) (Int.sub (Int.ofNat (2 ^ k)) 1)])
    | none => none
  | none => none
/-- the rest by a power, and what is left out as one more number -/
def sv_modk (t : Nat) (S : SvS) (rest : List SvA) (e : SvL) (k : Nat) : Option SvS := match sv_lb S.1 e with
  | some lo => match sv_ub S.1 e with
    | some hi => some ((S.1 ++ [(Int.ediv lo (Int.ofNat (2 ^ k)), some (Int.ediv hi (Int.ofNat (2 ^ k))))]) ++ [(0, some (Int.sub (Int.ofNat (2 ^ k)) 1))], S.2.1, (t, sv_v (S.1.length + 1)) :: rest,
        sv_mkf [sv_sub (sv_sub e (sv_sc (Int.ofNat (2 ^ k)) (sv_v S.1.length))) (sv_v (S.1.length + 1)), sv_sub (sv_v (S.1.length + 1)) (sv_sub e (sv_sc (Int.ofNat (2 ^ k)) (sv_v S.1.length)))] S.2.2.2)
    | none => none
  | none => none
def sv_bits (t : Nat) : Nat := bif Nat.beq t 1 then 32 else 64
/-- and: 0 mask at the right | 1 at the left | 2 the mask is a power less one (at the right) | 3 at the left | 4 any number -/
def sv_and (t : Nat) (S : SvS) (rest : List SvA) (a b : SvL) : List Nat → Option (SvS × List Nat)
  | 0 :: w => match sv_lb S.1 b with
    | some lo => match sv_ub S.1 b with
      | some hi => bif sv_ge0 lo then some (sv_fresh S t rest 0 hi, w) else none
      | none => none
    | none => none
  | 1 :: w => match sv_lb S.1 a with
    | some lo => match sv_ub S.1 a with
      | some hi => bif sv_ge0 lo then some (sv_fresh S t rest 0 hi, w) else none
      | none => none
    | none => none
  | 2 :: k :: w => match sv_cst S.1 b with
    | some x => bif sv_ieq x (Int.ofNat (2 ^ k - 1)) && Nat.blt k (sv_bits t) then (match sv_modk t S rest a k with | some S' => some (S', w) | none => none) else none
    | none => none
  | 4 :: w => some (sv_fresh S t rest (sv_lo t) (sv_hi t), w)
  | _ => none
def sv_dvdT (k : Int) : List (Nat × Int) → Bool
  | [] => true
  | (_, c) :: t => sv_iz (Int.emod c k) && sv_dvdT k t
def sv_dvd (k : Int) (e : SvL) : Bool := sv_iz (Int.emod e.1 k) && sv_dvdT k e.2
/-- or, xor: 0 both below a power | 1 a sum (or alone) | 4 any number -/
def sv_or (t : Nat) (S : SvS) (rest : List SvA) (a b : SvL) (isOr : Bool) : List Nat → Option (SvS × List Nat)
  | 0 :: k :: w => bif sv_in S.1 a 0 (Int.ofNat (2 ^ k - 1)) && sv_in S.1 b 0 (Int.ofNat (2 ^ k - 1)) && Nat.blt k (sv_bits t) then some (sv_fresh S t rest 0 (Int.ofNat (2 ^ k - 1)), w) else none
  | 1 :: k :: w => bif isOr && sv_in S.1 a 0 (sv_hi t) && sv_in S.1 b 0 (Int.ofNat (2 ^ k - 1)) && sv_in S.1 (sv_add a b) 0 (sv_hi t) && sv_dvd (Int.ofNat (2 ^ k)) a then some ((S.1, S.2.1, (t, sv_add a b) :: rest, S.2.2.2), w) else none
  | 4 :: w => some (sv_fresh S t rest (sv_lo t) (sv_hi t), w)
  | _ => none
/-- 5 with the sides changed -/
def sv_or2 (t : Nat) (S : SvS) (rest : List SvA) (a b : SvL) (isOr : Bool) (w : List Nat) : Option (SvS × List Nat) := match w with
  | 5 :: w1 => bif isOr then sv_or t S rest b a isOr w1 else none
  | _ => sv_or t S rest a b isOr w
def sv_sel (t : Nat) (b : List SvB) (e : SvL) : Option Nat := match sv_cst b e with
  | some (.ofNat k) => bif Nat.blt k (sv_bits t) then some k else none
  | _ => none
def sv_pc (o : Option SvS) (k pc : Nat) (w : List Nat) : Option (List (SvS × Nat) × List Nat) := match o with
  | some S' => some ([(S', pc + k)], w)
  | none => none
def sv_pr (o : Option (SvS × List Nat)) (k pc : Nat) : Option (List (SvS × Nat) × List Nat) := match o with
  | some (S', w) => some ([(S', pc + k)], w)
  | none => none
/-- a product of two that are no constants: any number, or by the corners where both are not negative -/
def sv_mulv (t : Nat) (S : SvS) (rest : List SvA) (a b : SvL) : SvS := match sv_lb S.1 a, sv_ub S.1 a, sv_lb S.1 b, sv_ub S.1 b with
  | some la, some ua, some lb, some ub => bif sv_ge0 la && sv_ge0 lb && sv_le (Int.mul ua ub) (sv_hi t) then sv_fresh S t rest (Int.mul la lb) (Int.mul ua ub) else sv_fresh S t rest (sv_lo t) (sv_hi t)
  | _, _, _, _ => sv_fresh S t rest (sv_lo t) (sv_hi t)
/-- counts -/
def sv_B (S : SvS) (pc : Nat) (i : Instr) (n : Nat) (w : List Nat) : Option (List (SvS × Nat) × List Nat) := bif Nat.beq n 1 then (match i with
  | .iadd => match S.2.2.1 with | (1, b) :: (1, a) :: r => sv_pr (sv_res 1 S r (sv_add a b) w) 1 pc | _ => none
  | .isub => match S.2.2.1 with | (1, b) :: (1, a) :: r => sv_pr (sv_res 1 S r (sv_sub a b) w) 1 pc | _ => none
  | .ladd => match S.2.2.1 with | (2, b) :: (2, a) :: r => sv_pr (sv_res 2 S r (sv_add a b) w) 1 pc | _ => none
  | .lsub => match S.2.2.1 with | (2, b) :: (2, a) :: r => sv_pr (sv_res 2 S r (sv_sub a b) w) 1 pc | _ => none
  | .ineg => match S.2.2.1 with | (1, a) :: r => sv_pr (sv_res 1 S r (sv_sc (-1) a) w) 1 pc | _ => none
  | .lneg => match S.2.2.1 with | (2, a) :: r => sv_pr (sv_res 2 S r (sv_sc (-1) a) w) 1 pc | _ => none
  | .imul => match S.2.2.1 with
    | (1, b) :: (1, a) :: r => match sv_cst S.1 b with
      | some k => sv_pr (sv_res 1 S r (sv_sc k a) w) 1 pc
      | none => match sv_cst S.1 a with
        | some k => sv_pr (sv_res 1 S r (sv_sc k b) w) 1 pc
        | none => sv_pc (some (sv_mulv 1 S r a b)) 1 pc w
    | _ => none
  | .lmul => match S.2.2.1 with
    | (2, b) :: (2, a) :: r => match sv_cst S.1 b with
      | some k => sv_pr (sv_res 2 S r (sv_sc k a) w) 1 pc
      | none => match sv_cst S.1 a with
        | some k => sv_pr (sv_res 2 S r (sv_sc k b) w) 1 pc
        | none => sv_pc (some (sv_mulv 2 S r a b)) 1 pc w
    | _ => none
  | .idiv => match S.2.2.1 with
    | (1, b) :: (1, a) :: r => match sv_cst S.1 b with
      | some k => bif sv_le 1 k then sv_pc (sv_divk 1 S r a k) 1 pc w else none
      | none => match sv_lb S.1 b with
        | some k => bif sv_le 1 k then sv_pc (some (sv_fresh S 1 r (sv_lo 1) (sv_hi 1))) 1 pc w else none
        | none => none
    | _ => none
  | .ldiv => match S.2.2.1 with
    | (2, b) :: (2, a) :: r => match sv_cst S.1 b with
      | some k => bif sv_le 1 k then sv_pc (sv_divk 2 S r a k) 1 pc w else none
      | none => none
    | _ => none
  | .irem => match S.2.2.1 with
    | (1, b) :: (1, a) :: r => match sv_cst S.1 b with
      | some k => bif sv_le 1 k then sv_pc (sv_remk 1 S r a k) 1 pc w else none
      | none => match sv_lb S.1 b with
        | some k => bif sv_le 1 k then sv_pc (some (sv_fresh S 1 r (sv_lo 1) (sv_hi 1))) 1 pc w else none
        | none => none
    | _ => none
  | .iand => match S.2.2.1 with | (1, b) :: (1, a) :: r => sv_pr (sv_and 1 S r a b w) 1 pc | _ => none
  | .land => match S.2.2.1 with | (2, b) :: (2, a) :: r => sv_pr (sv_and 2 S r a b w) 1 pc | _ => none
  | .ior => match S.2.2.1 with | (1, b) :: (1, a) :: r => sv_pr (sv_or2 1 S r a b true w) 1 pc | _ => none
  | .lor => match S.2.2.1 with | (2, b) :: (2, a) :: r => sv_pr (sv_or2 2 S r a b true w) 1 pc | _ => none
  | .ixor => match S.2.2.1 with | (1, b) :: (1, a) :: r => sv_pr (sv_or 1 S r a b false w) 1 pc | _ => none
  | .lxor => match S.2.2.1 with | (2, b) :: (2, a) :: r => sv_pr (sv_or 2 S r a b false w) 1 pc | _ => none
  | .ishl => match S.2.2.1 with
    | (1, b) :: (1, a) :: r => match sv_sel 1 S.1 b with
      | some k => sv_pr (sv_res 1 S r (sv_sc (Int.ofNat (2 ^ k)) a) w) 1 pc
      | none => sv_pc (some (sv_fresh S 1 r (sv_lo 1) (sv_hi 1))) 1 pc w
    | _ => none
  | .lshl => match S.2.2.1 with | (1, _) :: (2, _) :: r => sv_pc (some (sv_fresh S 2 r (sv_lo 2) (sv_hi 2))) 1 pc w | _ => none
  | .ishr => match S.2.2.1 with
    | (1, b) :: (1, a) :: r => match sv_sel 1 S.1 b with
      | some k => sv_pc (sv_shrk 1 S r a k) 1 pc w
      | none => sv_pc (some (sv_fresh S 1 r (sv_lo 1) (sv_hi 1))) 1 pc w
    | _ => none
  | .lshr => match S.2.2.1 with
    | (1, b) :: (2, a) :: r => match sv_sel 2 S.1 b with
      | some k => sv_pc (sv_shrk 2 S r a k) 1 pc w
      | none => sv_pc (some (sv_fresh S 2 r (sv_lo 2) (sv_hi 2))) 1 pc w
    | _ => none
  | .iushr => match S.2.2.1 with
    | (1, b) :: (1, a) :: r => match sv_sel 1 S.1 b with
      | some k => match sv_lb S.1 a with
        | some lo => bif sv_ge0 lo then sv_pc (sv_shrk 1 S r a k) 1 pc w else bif Nat.beq k 0 then none else sv_pc (some (sv_fresh S 1 r 0 (Int.ofNat (2 ^ (32 - k) - 1)))) 1 pc w
        | none => none
      | none => sv_pc (some (sv_fresh S 1 r (sv_lo 1) (sv_hi 1))) 1 pc w
    | _ => none
  | .lushr => match S.2.2.1 with | (1, _) :: (2, _) :: r => sv_pc (some (sv_fresh S 2 r (sv_lo 2) (sv_hi 2))) 1 pc w | _ => none
  | .i2l => match S.2.2.1 with | (1, a) :: r => sv_pc (some (S.1, S.2.1, (2, a) :: r, S.2.2.2)) 1 pc w | _ => none
  | .l2i => match S.2.2.1 with | (2, a) :: r => sv_pr (sv_res 1 S r a w) 1 pc | _ => none
  | .i2b => match S.2.2.1 with | (1, a) :: r => bif sv_in S.1 a (-128) 127 then sv_pc (some (S.1, S.2.1, (1, a) :: r, S.2.2.2)) 1 pc w else sv_pc (some (sv_fresh S 1 r (-128) 127)) 1 pc w | _ => none
  | _ => none) else none
end
section
theorem sv_mkf_mem {f : SvF} : ∀ {fs : List SvL} {l : List SvF}, f ∈ sv_mkf fs l → (∃ e ∈ fs, f = (0, [], [e])) ∨ f ∈ l
  | [], l, h => Or.inr h
  | e :: t, l, h => by
    simp only [sv_mkf] at h
    rcases List.mem_cons.mp h with h | h
    · exact Or.inl ⟨e, List.mem_cons_self, h⟩
    · rcases sv_mkf_mem h with ⟨e2, h2, h3⟩ | h2
      · exact Or.inl ⟨e2, List.mem_cons_of_mem _ h2, h3⟩
      · exact Or.inr h2
theorem sv_cst_ok {ρ : List Int} {b : List SvB} (hb : sv_BOk ρ b) {e : SvL} {x k : Int} (h1 : sv_ev ρ e = some x) (h2 : sv_cst b e = some k) : x = k := by
  unfold sv_cst at h2
  split at h2
  · rename_i lo hl
    split at h2
    · rename_i hi hu
      cases hq : sv_ieq lo hi with
      | false => simp only [hq, cond_false] at h2; cases h2
      | true =>
        simp only [hq, cond_true, Option.some.injEq] at h2
        have e1 := (sv_ieq_iff _ _).mp hq
        have e2 := sv_lb_ok hb h1 hl
        have e3 := sv_ub_ok hb h1 hu
        omega
    · simp at h2
  · simp at h2
theorem sv_sel_ok {ρ : List Int} {b : List SvB} (hb : sv_BOk ρ b) {t k : Nat} {e : SvL} {x : Int} (h1 : sv_ev ρ e = some x) (h2 : sv_sel t b e = some k) : x = (k : Int) ∧ k < sv_bits t := by
  unfold sv_sel at h2
  split at h2
  · rename_i j hc
    cases hq : Nat.blt j (sv_bits t) with
    | false => simp only [hq, cond_false] at h2; cases h2
    | true =>
      simp only [hq, cond_true, Option.some.injEq] at h2
      subst h2
      exact ⟨sv_cst_ok hb h1 hc, Nat.lt_of_lt_of_le (Nat.lt_succ_self _) (Nat.le_of_ble_eq_true hq)⟩
  · simp at h2
theorem sv_evv {ρ : List Int} {b : List SvB} (hb : sv_BOk ρ b) (x : Int) : sv_ev (ρ ++ [x]) (sv_v b.length) = some x := sv_ev_v (sv_nth_last hb x)
theorem sv_pc_ok {o : Option SvS} {k pc : Nat} {w w' : List Nat} {r : List (SvS × Nat)} (h : sv_pc o k pc w = some (r, w')) : ∃ S', o = some S' ∧ r = [(S', pc + k)] := by
  unfold sv_pc at h
  split at h
  · rename_i S'
    simp only [Option.some.injEq, Prod.mk.injEq] at h
    exact ⟨S', rfl, h.1.symm⟩
  · simp at h
theorem sv_pr_ok {o : Option (SvS × List Nat)} {k pc : Nat} {w' : List Nat} {r : List (SvS × Nat)} (h : sv_pr o k pc = some (r, w')) : ∃ S' w2, o = some (S', w2) ∧ r = [(S', pc + k)] := by
  unfold sv_pr at h
  split at h
  · rename_i S' w2
    simp only [Option.some.injEq, Prod.mk.injEq] at h
    exact ⟨S', w2, rfl, h.1.symm⟩
  · simp at h
section SVF
variable {P : Nat → List Nat → List Int → (Nat → Nat) → Heap → Prop} {D : va_G} {kd : List SvK} {κ : Nat → Nat} {H : Heap} {ρ : List Int} {nL : Nat} {ls : Array Slot} {st : List Value} {S S' : SvS} {rest : List SvA} {st' : List Value} {t : Nat} {v : Value}
theorem sv_freshF_ok {lo hi : Int} {fs : List SvL} (hS : sv_Sat P D kd κ H ρ nL ls st S) (hr : sv_StOk ρ rest st') (ht : sv_tag v = t) (ht0 : t ≠ 0) (h1 : lo ≤ sv_enc v) (h2 : sv_enc v ≤ hi) (hf : ∀ e ∈ fs, ∃ y, sv_ev (ρ ++ [sv_enc v]) e = some y ∧ 0 ≤ y) :
    sv_Sat P D kd κ H (ρ ++ [sv_enc v]) nL ls (v :: st') (sv_freshF S t rest lo hi fs) := by
  obtain ⟨q1, q2, q3, q4⟩ := sv_fresh_ok hS hr ht ht0 h1 h2
  refine ⟨q1, q2, q3, fun f hm => ?_⟩
  rcases sv_mkf_mem hm with ⟨e, he, rfl⟩ | hm
  · obtain ⟨y, h3, h4⟩ := hf e he
    exact ⟨[y], sv_evs_cons.mpr ⟨y, [], h3, rfl, rfl⟩, h4⟩
  · exact q4 f hm
theorem sv_divk_ok {e : SvL} {k x : Int} (hS : sv_Sat P D kd κ H ρ nL ls st S) (hr : sv_StOk ρ rest st') (h : sv_divk t S rest e k = some S') (hk : 1 ≤ k) (hx : sv_ev ρ e = some x) (ht : sv_tag v = t) (ht0 : t ≠ 0) (hv : sv_enc v = x.tdiv k) (h1 : sv_lo t ≤ sv_enc v) (h2 : sv_enc v ≤ sv_hi t) : sv_Sat P D kd κ H (ρ ++ [sv_enc v]) nL ls (v :: st') S' := by
  have e0 := Int.mul_tdiv_add_tmod x k
  have e1 := Int.tmod_lt_of_pos x (show 0 < k by omega)
  have e2 := Int.lt_tmod_of_pos x (show 0 < k by omega)
  have e3 := sv_evv hS.1 (sv_enc v)
  have e4 := sv_ev_app (τ := [sv_enc v]) hx
  unfold sv_divk at h
  split at h
  · rename_i lo hl
    split at h
    · rename_i hi hu
      have g1 := sv_lb_ok hS.1 hx hl
      have g2 := sv_ub_ok hS.1 hx hu
      cases hq : sv_ge0 lo with
      | true =>
        simp only [hq, cond_true, Option.some.injEq] at h
        subst h
        have h0 : 0 ≤ lo := (sv_ge0_iff lo).mp hq
        have e5 := Int.tmod_nonneg k (show 0 ≤ x by omega)
        have e6 : x.tdiv k = x / k := Int.tdiv_eq_ediv_of_nonneg (by omega)
        refine sv_freshF_ok hS hr ht ht0 ?_ ?_ (fun e he => ?_)
        · rw [hv, e6]; exact Int.ediv_le_ediv (by omega) g1
        · rw [hv, e6]; exact Int.ediv_le_ediv (by omega) g2
        · simp only [List.mem_cons, List.not_mem_nil, or_false] at he
          rcases he with rfl | rfl
          · refine ⟨_, sv_ev_sub e4 (sv_ev_sc e3), ?_⟩
            rw [hv]; omega
          · refine ⟨_, sv_ev_addc (sv_ev_sub (sv_ev_sc e3) e4), ?_⟩
            rw [hv]
            show 0 ≤ k * x.tdiv k - x + (k - 1)
            omega
      | false =>
        simp only [hq, cond_false, Option.some.injEq] at h
        subst h
        refine sv_freshF_ok hS hr ht ht0 h1 h2 (fun e he => ?_)
        simp only [List.mem_cons, List.not_mem_nil, or_false] at he
        rcases he with rfl | rfl
        · refine ⟨_, sv_ev_addc (sv_ev_sub e4 (sv_ev_sc e3)), ?_⟩
          rw [hv]
          show 0 ≤ x - k * x.tdiv k + (k - 1)
          omega
        · refine ⟨_, sv_ev_addc (sv_ev_sub (sv_ev_sc e3) e4), ?_⟩
          rw [hv]
          show 0 ≤ k * x.tdiv k - x + (k - 1)
          omega
    · simp at h
  · simp at h
theorem sv_remk_ok {e : SvL} {k x : Int} (hS : sv_Sat P D kd κ H ρ nL ls st S) (hr : sv_StOk ρ rest st') (h : sv_remk t S rest e k = some S') (hk : 1 ≤ k) (hx : sv_ev ρ e = some x) (ht : sv_tag v = t) (ht0 : t ≠ 0) (hv : sv_enc v = x.tmod k) : ∃ τ, sv_Sat P D kd κ H (ρ ++ τ) nL ls (v :: st') S' := by
  have e0 := Int.mul_tdiv_add_tmod x k
  have e1 := Int.tmod_lt_of_pos x (show 0 < k by omega)
  have e2 := Int.lt_tmod_of_pos x (show 0 < k by omega)
  unfold sv_remk at h
  split at h
  · rename_i lo hl
    have g1 := sv_lb_ok hS.1 hx hl
    cases hq : sv_ge0 lo with
    | true =>
      simp only [hq, cond_true] at h
      split at h
      · rename_i hi hu
        have g2 := sv_ub_ok hS.1 hx hu
        simp only [Option.some.injEq] at h
        subst h
        have h0 : 0 ≤ lo := (sv_ge0_iff lo).mp hq
        have e5 := Int.tmod_nonneg k (show 0 ≤ x by omega)
        have e6 : x.tdiv k = x / k := Int.tdiv_eq_ediv_of_nonneg (by omega)
        have hb1 : sv_BOk (ρ ++ [x.tdiv k]) (S.1 ++ [(Int.ediv lo k, some (Int.ediv hi k))]) := sv_BOk_add hS.1 (by rw [e6]; exact Int.ediv_le_ediv (by omega) g1) (fun h q => by cases q; rw [e6]; exact Int.ediv_le_ediv (by omega) g2)
        have hb2 := sv_BOk_add (x := sv_enc v) (lo := 0) (hi := some (Int.sub k 1)) hb1 (by rw [hv]; exact e5) (fun h q => by cases q; rw [hv]; show _ ≤ k - 1; omega)
        have hr2 : ρ ++ [x.tdiv k, sv_enc v] = (ρ ++ [x.tdiv k]) ++ [sv_enc v] := by simp
        have e3 : sv_ev (ρ ++ [x.tdiv k, sv_enc v]) (sv_v S.1.length) = some (x.tdiv k) := by rw [hr2]; exact sv_ev_app (sv_evv hS.1 _)
        have e8 : sv_ev (ρ ++ [x.tdiv k, sv_enc v]) (sv_v (S.1.length + 1)) = some (sv_enc v) := by
          rw [hr2]
          have := sv_evv hb1 (sv_enc v)
          rw [List.length_append] at this
          exact this
        have e4 : sv_ev (ρ ++ [x.tdiv k, sv_enc v]) e = some x := sv_ev_app hx
        obtain ⟨lv, hl1, hl2⟩ := hS.2.1
        refine ⟨[x.tdiv k, sv_enc v], by rw [hr2]; exact hb2, ⟨lv, hl1, sv_LoOk_app hl2⟩, ⟨⟨ht, ht0, e8⟩, sv_StOk_app hr⟩, fun f hm => ?_⟩
        rcases sv_mkf_mem hm with ⟨e', he, rfl⟩ | hm
        · simp only [List.mem_cons, List.not_mem_nil, or_false] at he
          rcases he with rfl | rfl
          · refine ⟨[_], sv_evs_cons.mpr ⟨_, [], sv_ev_sub (sv_ev_sub e4 (sv_ev_sc e3)) e8, rfl, rfl⟩, ?_⟩
            rw [hv]
            show 0 ≤ x - k * x.tdiv k - x.tmod k
            omega
          · refine ⟨[_], sv_evs_cons.mpr ⟨_, [], sv_ev_sub e8 (sv_ev_sub e4 (sv_ev_sc e3)), rfl, rfl⟩, ?_⟩
            rw [hv]
            show 0 ≤ x.tmod k - (x - k * x.tdiv k)
            omega
        · exact sv_FOk_app (hS.2.2.2 f hm)
      · simp at h
    | false =>
      simp only [hq, cond_false, Option.some.injEq] at h
      subst h
      exact ⟨_, sv_fresh_ok hS hr ht ht0 (by rw [hv]; show 1 - k ≤ _; omega) (by rw [hv]; show _ ≤ k - 1; omega)⟩
  · simp at h
theorem sv_shrk_ok {e : SvL} {k : Nat} {x : Int} (hS : sv_Sat P D kd κ H ρ nL ls st S) (hr : sv_StOk ρ rest st') (h : sv_shrk t S rest e k = some S') (hx : sv_ev ρ e = some x) (ht : sv_tag v = t) (ht0 : t ≠ 0) (hv : sv_enc v = x / ((2 ^ k : Nat) : Int)) : sv_Sat P D kd κ H (ρ ++ [sv_enc v]) nL ls (v :: st') S' := by
  have hp : (0 : Int) < ((2 ^ k : Nat) : Int) := by have := Nat.two_pow_pos k; omega
  have e0 := Int.mul_ediv_add_emod x ((2 ^ k : Nat) : Int)
  have e1 := Int.emod_lt_of_pos x hp
  have e2 := Int.emod_nonneg x (show ((2 ^ k : Nat) : Int) ≠ 0 by omega)
  have e3 := sv_evv hS.1 (sv_enc v)
  have e4 := sv_ev_app (τ := [sv_enc v]) hx
  unfold sv_shrk at h
  split at h
  · rename_i lo hl
    split at h
    · rename_i hi hu
      have g1 := sv_lb_ok hS.1 hx hl
      have g2 := sv_ub_ok hS.1 hx hu
      simp only [Option.some.injEq] at h
      subst h
      refine sv_freshF_ok hS hr ht ht0 ?_ ?_ (fun e he => ?_)
      · rw [hv]; exact Int.ediv_le_ediv hp g1
      · rw [hv]; exact Int.ediv_le_ediv hp g2
      · simp only [List.mem_cons, List.not_mem_nil, or_false] at he
        rcases he with rfl | rfl
        · refine ⟨_, sv_ev_sub e4 (sv_ev_sc e3), ?_⟩
          rw [hv]
          show 0 ≤ x - ((2 ^ k : Nat) : Int) * (x / ((2 ^ k : Nat) : Int))
          omega
        · refine ⟨_, sv_ev_addc (sv_ev_sub (sv_ev_sc e3) e4), ?_⟩
          rw [hv]
          show 0 ≤ ((2 ^ k : Nat) : Int) * (x / ((2 ^ k : Nat) : Int)) - x + (((2 ^ k : Nat) : Int) - 1)
          omega
    · simp at h
  · simp at h
theorem sv_modk_ok {e : SvL} {k : Nat} {x : Int} (hS : sv_Sat P D kd κ H ρ nL ls st S) (hr : sv_StOk ρ rest st') (h : sv_modk t S rest e k = some S') (hx : sv_ev ρ e = some x) (ht : sv_tag v = t) (ht0 : t ≠ 0) (hv : sv_enc v = x % ((2 ^ k : Nat) : Int)) : sv_Sat P D kd κ H (ρ ++ [x / ((2 ^ k : Nat) : Int), sv_enc v]) nL ls (v :: st') S' := by
  have hp : (0 : Int) < ((2 ^ k : Nat) : Int) := by have := Nat.two_pow_pos k; omega
  have e0 := Int.mul_ediv_add_emod x ((2 ^ k : Nat) : Int)
  have e1 := Int.emod_lt_of_pos x hp
  have e2 := Int.emod_nonneg x (show ((2 ^ k : Nat) : Int) ≠ 0 by omega)
  unfold sv_modk at h
  split at h
  · rename_i lo hl
    split at h
    · rename_i hi hu
      have g1 := sv_lb_ok hS.1 hx hl
      have g2 := sv_ub_ok hS.1 hx hu
      simp only [Option.some.injEq] at h
      subst h
      have hb1 : sv_BOk (ρ ++ [x / ((2 ^ k : Nat) : Int)]) (S.1 ++ [(Int.ediv lo (Int.ofNat (2 ^ k)), some (Int.ediv hi (Int.ofNat (2 ^ k))))]) := sv_BOk_add hS.1 (Int.ediv_le_ediv hp g1) (fun h q => by cases q; exact Int.ediv_le_ediv hp g2)
      have hb2 := sv_BOk_add (x := sv_enc v) (lo := 0) (hi := some (Int.sub (Int.ofNat (2 ^ k)) 1)) hb1 (by rw [hv]; exact e2) (fun h q => by cases q; rw [hv]; show _ ≤ ((2 ^ k : Nat) : Int) - 1; omega)
      have hr2 : ρ ++ [x / ((2 ^ k : Nat) : Int), sv_enc v] = (ρ ++ [x / ((2 ^ k : Nat) : Int)]) ++ [sv_enc v] := by simp
      have e3 : sv_ev (ρ ++ [x / ((2 ^ k : Nat) : Int), sv_enc v]) (sv_v S.1.length) = some (x / ((2 ^ k : Nat) : Int)) := by rw [hr2]; exact sv_ev_app (sv_evv hS.1 _)
      have e5 : sv_ev (ρ ++ [x / ((2 ^ k : Nat) : Int), sv_enc v]) (sv_v (S.1.length + 1)) = some (sv_enc v) := by
        rw [hr2]
        have := sv_evv hb1 (sv_enc v)
        rw [List.length_append] at this
        exact this
      have e4 : sv_ev (ρ ++ [x / ((2 ^ k : Nat) : Int), sv_enc v]) e = some x := sv_ev_app hx
      obtain ⟨lv, hl1, hl2⟩ := hS.2.1
      refine ⟨by rw [hr2]; exact hb2, ⟨lv, hl1, sv_LoOk_app hl2⟩, ⟨⟨ht, ht0, e5⟩, sv_StOk_app hr⟩, fun f hm => ?_⟩
      rcases sv_mkf_mem hm with ⟨e', he, rfl⟩ | hm
      · simp only [List.mem_cons, List.not_mem_nil, or_false] at he
        rcases he with rfl | rfl
        · refine ⟨[_], sv_evs_cons.mpr ⟨_, [], sv_ev_sub (sv_ev_sub e4 (sv_ev_sc e3)) e5, rfl, rfl⟩, ?_⟩
          rw [hv]
          show 0 ≤ x - ((2 ^ k : Nat) : Int) * (x / ((2 ^ k : Nat) : Int)) - x % ((2 ^ k : Nat) : Int)
          omega
        · refine ⟨[_], sv_evs_cons.mpr ⟨_, [], sv_ev_sub e5 (sv_ev_sub e4 (sv_ev_sc e3)), rfl, rfl⟩, ?_⟩
          rw [hv]
          show 0 ≤ x % ((2 ^ k : Nat) : Int) - (x - ((2 ^ k : Nat) : Int) * (x / ((2 ^ k : Nat) : Int)))
          omega
      · exact sv_FOk_app (hS.2.2.2 f hm)
    · simp at h
  · simp at h
end SVF
end
section
theorem sv_n032 {y : Int32} (h : 1 ≤ y.toInt) : ¬ y = 0 := fun q => by subst q; exact absurd h (by decide)
theorem sv_nm32 {y : Int32} (h : 1 ≤ y.toInt) : y ≠ -1 := fun q => by subst q; exact absurd h (by decide)
theorem sv_n064 {y : Int64} (h : 1 ≤ y.toInt) : ¬ y = 0 := fun q => by subst q; exact absurd h (by decide)
theorem sv_nm64 {y : Int64} (h : 1 ≤ y.toInt) : y ≠ -1 := fun q => by subst q; exact absurd h (by decide)
section SVG
variable {P : Nat → List Nat → List Int → (Nat → Nat) → Heap → Prop} {D : va_G} {kd : List SvK} {κ : Nat → Nat} {H : Heap} {ρ : List Int} {nL : Nat} {ls : Array Slot} {st : List Value} {S S' : SvS} {rest : List SvA} {st' : List Value} {t : Nat} {v : Value}
theorem sv_mulv_ok {a b : SvL} {x y : Int} (hS : sv_Sat P D kd κ H ρ nL ls st S) (hr : sv_StOk ρ rest st') (ha : sv_ev ρ a = some x) (hb : sv_ev ρ b = some y) (ht : sv_tag v = t) (ht0 : t ≠ 0) (h1 : sv_lo t ≤ sv_enc v) (h2 : sv_enc v ≤ sv_hi t) (hv : sv_lo t ≤ x * y → x * y ≤ sv_hi t → sv_enc v = x * y) (hlo : sv_lo t ≤ 0) : sv_Sat P D kd κ H (ρ ++ [sv_enc v]) nL ls (v :: st') (sv_mulv t S rest a b) := by
  unfold sv_mulv
  split
  · rename_i la ua lb ub e1 e2 e3 e4
    cases hq : (sv_ge0 la && sv_ge0 lb && sv_le (Int.mul ua ub) (sv_hi t)) with
    | false =>
      simp only [cond_false]
      exact sv_fresh_ok hS hr ht ht0 h1 h2
    | true =>
      simp only [cond_true]
      simp only [Bool.and_eq_true, sv_ge0_iff, sv_le_iff] at hq
      obtain ⟨⟨g1, g2⟩, g3⟩ := hq
      have f1 := sv_lb_ok hS.1 ha e1
      have f2 := sv_ub_ok hS.1 ha e2
      have f3 := sv_lb_ok hS.1 hb e3
      have f4 := sv_ub_ok hS.1 hb e4
      have m1 : la * lb ≤ x * y := Int.mul_le_mul f1 f3 g2 (by omega)
      have m2 : x * y ≤ ua * ub := Int.mul_le_mul f2 f4 (by omega) (by omega)
      have m3 : 0 ≤ la * lb := Int.mul_nonneg g1 g2
      have g3 : ua * ub ≤ sv_hi t := g3
      have hv := hv (by omega) (by omega)
      exact sv_fresh_ok hS hr ht ht0 (by rw [hv]; exact m1) (by rw [hv]; exact m2)
  · exact sv_fresh_ok hS hr ht ht0 h1 h2
theorem sv_and_ok {n : Nat} {x y : BitVec n} {a b : SvL} {w w' : List Nat} (hS : sv_Sat P D kd κ H ρ nL ls st S) (hr : sv_StOk ρ rest st') (h : sv_and t S rest a b w = some (S', w')) (ha : sv_ev ρ a = some x.toInt) (hb : sv_ev ρ b = some y.toInt) (ht : sv_tag v = t) (ht0 : t ≠ 0) (hn : n = sv_bits t) (hv : sv_enc v = (x &&& y).toInt) (h1 : sv_lo t ≤ sv_enc v) (h2 : sv_enc v ≤ sv_hi t) : ∃ τ, sv_Sat P D kd κ H (ρ ++ τ) nL ls (v :: st') S' := by
  unfold sv_and at h
  split at h
  · split at h
    · rename_i lo hl
      split at h
      · rename_i hi hu
        cases hq : sv_ge0 lo with
        | false => simp only [hq, cond_false] at h; cases h
        | true =>
          simp only [hq, cond_true, Option.some.injEq, Prod.mk.injEq] at h
          obtain ⟨rfl, -⟩ := h
          have g0 := (sv_ge0_iff lo).mp hq
          have g1 := sv_lb_ok hS.1 hb hl
          have g2 := sv_ub_ok hS.1 hb hu
          have g3 := sv_bvand x y (by omega)
          exact ⟨_, sv_fresh_ok hS hr ht ht0 (by omega) (by omega)⟩
      · simp at h
    · simp at h
  · split at h
    · rename_i lo hl
      split at h
      · rename_i hi hu
        cases hq : sv_ge0 lo with
        | false => simp only [hq, cond_false] at h; cases h
        | true =>
          simp only [hq, cond_true, Option.some.injEq, Prod.mk.injEq] at h
          obtain ⟨rfl, -⟩ := h
          have g0 := (sv_ge0_iff lo).mp hq
          have g1 := sv_lb_ok hS.1 ha hl
          have g2 := sv_ub_ok hS.1 ha hu
          have g3 := sv_bvand2 x y (by omega)
          exact ⟨_, sv_fresh_ok hS hr ht ht0 (by omega) (by omega)⟩
      · simp at h
    · simp at h
  · rename_i k w1
    split at h
    · rename_i z hc
      cases hq : (sv_ieq z (Int.ofNat (2 ^ k - 1)) && Nat.blt k (sv_bits t)) with
      | false => simp only [hq, cond_false] at h; cases h
      | true =>
        simp only [hq, cond_true] at h
        rw [Bool.and_eq_true] at hq
        have e1 := (sv_ieq_iff _ _).mp hq.1
        have e2 := sv_cst_ok hS.1 hb hc
        have e3 : k < n := by rw [hn]; exact Nat.lt_of_lt_of_le (Nat.lt_succ_self _) (Nat.le_of_ble_eq_true hq.2)
        split at h
        · rename_i S2 hm
          simp only [Option.some.injEq, Prod.mk.injEq] at h
          obtain ⟨rfl, -⟩ := h
          exact ⟨_, sv_modk_ok hS hr hm ha ht ht0 (by rw [hv]; exact sv_bvmask x y e3 (e2.trans e1))⟩
        · simp at h
    · simp at h
  · simp only [Option.some.injEq, Prod.mk.injEq] at h
    obtain ⟨rfl, -⟩ := h
    exact ⟨_, sv_fresh_ok hS hr ht ht0 h1 h2⟩
  · simp at h
theorem sv_dvdT_ok {K : Int} : ∀ {t : List (Nat × Int)} {y : Int}, sv_dvdT K t = true → sv_evT ρ t = some y → K ∣ y
  | [], y, _, h2 => by
    simp only [sv_evT, Option.some.injEq] at h2
    rw [← h2]
    exact ⟨0, by simp⟩
  | (u, c) :: t, y, h1, h2 => by
    obtain ⟨x, z, g1, g2, rfl⟩ := sv_evT_cons.mp h2
    simp only [sv_dvdT, Bool.and_eq_true, sv_iz_iff] at h1
    exact Int.dvd_add (Int.dvd_mul_of_dvd_left (Int.dvd_of_emod_eq_zero h1.1)) (sv_dvdT_ok h1.2 g2)
theorem sv_dvd_ok {K : Int} {a : SvL} {y : Int} (h1 : sv_dvd K a = true) (h2 : sv_ev ρ a = some y) : K ∣ y := by
  obtain ⟨z, g1, rfl⟩ := sv_ev_iff.mp h2
  simp only [sv_dvd, Bool.and_eq_true, sv_iz_iff] at h1
  exact Int.dvd_add (Int.dvd_of_emod_eq_zero h1.1) (sv_dvdT_ok h1.2 g1)
theorem sv_or_ok {n : Nat} {x y : BitVec n} {a b : SvL} {isOr : Bool} {w w' : List Nat} (hS : sv_Sat P D kd κ H ρ nL ls st S) (hr : sv_StOk ρ rest st') (h : sv_or t S rest a b isOr w = some (S', w')) (ha : sv_ev ρ a = some x.toInt) (hb : sv_ev ρ b = some y.toInt) (ht : sv_tag v = t) (ht0 : t ≠ 0) (hn : n = sv_bits t) (hv : (isOr = true ∧ sv_enc v = (x ||| y).toInt) ∨ (isOr = false ∧ sv_enc v = (x ^^^ y).toInt)) (h1 : sv_lo t ≤ sv_enc v) (h2 : sv_enc v ≤ sv_hi t) (hh : ((2 ^ (n - 1) : Nat) : Int) = sv_hi t + 1) : ∃ τ, sv_Sat P D kd κ H (ρ ++ τ) nL ls (v :: st') S' := by
  have hn0 : 0 < n := by
    rw [hn]
    unfold sv_bits
    cases Nat.beq t 1 <;> decide
  unfold sv_or at h
  split at h
  · rename_i k w1
    cases hq : (sv_in S.1 a 0 (Int.ofNat (2 ^ k - 1)) && sv_in S.1 b 0 (Int.ofNat (2 ^ k - 1)) && Nat.blt k (sv_bits t)) with
    | false => simp only [hq, cond_false] at h; cases h
    | true =>
      simp only [hq, cond_true, Option.some.injEq, Prod.mk.injEq] at h
      obtain ⟨rfl, -⟩ := h
      simp only [Bool.and_eq_true] at hq
      obtain ⟨⟨g1, g2⟩, -⟩ := hq
      have g1 := sv_in_ok hS.1 ha g1
      have g2 := sv_in_ok hS.1 hb g2
      have hp := Nat.two_pow_pos k
      have e0 : Int.ofNat (2 ^ k - 1) = ((2 ^ k : Nat) : Int) - 1 := by
        show ((2 ^ k - 1 : Nat) : Int) = _
        omega
      rw [e0] at g1 g2
      have f1 := sv_bvor (k := k) hn0 x y g1.1 g2.1 (by omega) (by omega)
      have f2 := sv_bvxor (k := k) hn0 x y g1.1 g2.1 (by omega) (by omega)
      refine ⟨_, sv_fresh_ok hS hr ht ht0 ?_ ?_⟩
      · rcases hv with ⟨-, hv⟩ | ⟨-, hv⟩ <;> omega
      · rw [e0]; rcases hv with ⟨-, hv⟩ | ⟨-, hv⟩ <;> omega
  · rename_i k w1
    cases hq : (isOr && sv_in S.1 a 0 (sv_hi t) && sv_in S.1 b 0 (Int.ofNat (2 ^ k - 1)) && sv_in S.1 (sv_add a b) 0 (sv_hi t) && sv_dvd (Int.ofNat (2 ^ k)) a) with
    | false => simp only [hq, cond_false] at h; cases h
    | true =>
      simp only [hq, cond_true, Option.some.injEq, Prod.mk.injEq] at h
      obtain ⟨rfl, -⟩ := h
      simp only [Bool.and_eq_true] at hq
      obtain ⟨⟨⟨⟨g0, g1⟩, g2⟩, g3⟩, g4⟩ := hq
      have g1 := sv_in_ok hS.1 ha g1
      have g2 := sv_in_ok hS.1 hb g2
      have g3 := sv_in_ok hS.1 (sv_ev_add ha hb) g3
      obtain ⟨z, hz⟩ := sv_dvd_ok g4 ha
      have hp := Nat.two_pow_pos k
      have e0 : Int.ofNat (2 ^ k - 1) = ((2 ^ k : Nat) : Int) - 1 := by
        show ((2 ^ k - 1 : Nat) : Int) = _
        omega
      rw [e0] at g2
      have hz0 : 0 ≤ z := by
        by_cases h0 : 0 ≤ z
        · exact h0
        · have h5 : ((2 ^ k : Nat) : Int) * z < 0 := Int.mul_neg_of_pos_of_neg (by omega) (by omega)
          have h6 : x.toInt = ((2 ^ k : Nat) : Int) * z := hz
          omega
      obtain ⟨a', rfl⟩ : ∃ a' : Nat, z = (a' : Int) := ⟨z.toNat, (Int.toNat_of_nonneg hz0).symm⟩
      have f1 := sv_bvors (k := k) hn0 x y g1.1 g2.1 a' (by rw [hz, Int.natCast_mul]; rfl) (by omega) (by omega)
      rcases hv with ⟨-, hv⟩ | ⟨h9, -⟩
      · refine ⟨[], ?_⟩
        rw [List.append_nil]
        exact sv_stk_ok hS hr ⟨ht, ht0, by rw [hv, f1]; exact sv_ev_add ha hb⟩
      · rw [h9] at g0
        cases g0
  · simp only [Option.some.injEq, Prod.mk.injEq] at h
    obtain ⟨rfl, -⟩ := h
    exact ⟨_, sv_fresh_ok hS hr ht ht0 h1 h2⟩
  · simp at h
theorem sv_or2_ok {n : Nat} {x y : BitVec n} {a b : SvL} {isOr : Bool} {w w' : List Nat} (hS : sv_Sat P D kd κ H ρ nL ls st S) (hr : sv_StOk ρ rest st') (h : sv_or2 t S rest a b isOr w = some (S', w')) (ha : sv_ev ρ a = some x.toInt) (hb : sv_ev ρ b = some y.toInt) (ht : sv_tag v = t) (ht0 : t ≠ 0) (hn : n = sv_bits t) (hv : (isOr = true ∧ sv_enc v = (x ||| y).toInt) ∨ (isOr = false ∧ sv_enc v = (x ^^^ y).toInt)) (h1 : sv_lo t ≤ sv_enc v) (h2 : sv_enc v ≤ sv_hi t) (hh : ((2 ^ (n - 1) : Nat) : Int) = sv_hi t + 1) : ∃ τ, sv_Sat P D kd κ H (ρ ++ τ) nL ls (v :: st') S' := by
  unfold sv_or2 at h
  split at h
  · cases isOr with
    | false => simp only [cond_false] at h; cases h
    | true =>
      simp only [cond_true] at h
      refine sv_or_ok (x := y) (y := x) hS hr h hb ha ht ht0 hn (Or.inl ⟨rfl, ?_⟩) h1 h2 hh
      rcases hv with ⟨-, hv⟩ | ⟨h9, -⟩
      · rw [hv, BitVec.or_comm]
      · cases h9
  · exact sv_or_ok hS hr h ha hb ht ht0 hn hv h1 h2 hh
end SVG
section SVC
variable {p : Program} {l : Launch} {e : Env} {R : Room} {s : State} {m : MethodId} {args : Array Value} {below : List Frame} {meth : Method} {c : Code} {Q : State → Prop}
variable {P : Nat → List Nat → List Int → (Nat → Nat) → Heap → Prop} {D : va_G} {AC : Nat → ClassId} {kd : List SvK} {B0 : Nat} {κ0 : Nat → Nat} {mF mA : List Nat} {Px : List Int → Prop} {nL : Nat} {cc : ByteArray} {pc n : Nat} {w w' : List Nat} {S : SvS} {r : List (SvS × Nat)}
theorem sv_cnt (hPx : ∀ ρ τ, Px ρ → Px (ρ ++ τ)) {S' : SvS} {k : Nat} (hk : sv_Good p l e R s m args below meth c Q P D AC kd B0 κ0 mF mA Px nL S' k) (hr : ∀ (κ : Nat → Nat) (H : Heap) (locs : List Loc) (cells slots : Nat) (ρ : List Int) (ls : Array Slot) (st : List Value), sv_Sat P D kd κ H ρ nL ls st S → ∃ (τ : List Int) (st' : List Value), sv_Sat P D kd κ H (ρ ++ τ) nL ls st' S' ∧ (W p l e R s m args below meth c H locs cells slots Q (F0 m k ls st') → W p l e R s m args below meth c H locs cells slots Q (F0 m pc ls st))) : sv_Good p l e R s m args below meth c Q P D AC kd B0 κ0 mF mA Px nL S pc := by
  intro κ H locs ρ ls st hI hP hS
  obtain ⟨τ, st', h1, h2⟩ := hr κ H locs _ _ ρ ls st hS
  exact h2 (hk κ H locs (ρ ++ τ) ls st' hI (hPx ρ τ hP) h1)
theorem sv_B_ok (hPx : ∀ ρ τ, Px ρ → Px (ρ ++ τ)) (hx : p.tables.exec = Jvm.exec) (hb : c.code = cc) {i : Instr} (hd : decode cc pc = .ok (i, n)) (h : sv_B S pc i n w = some (r, w')) (hk : ∀ q ∈ r, sv_Good p l e R s m args below meth c Q P D AC kd B0 κ0 mF mA Px nL q.1 q.2) : sv_Good p l e R s m args below meth c Q P D AC kd B0 κ0 mF mA Px nL S pc := by
  unfold sv_B at h
  cases hn : Nat.beq n 1 with
  | false => simp only [hn, cond_false] at h; cases h
  | true =>
  simp only [hn, cond_true] at h
  have hn := Nat.eq_of_beq_eq_true hn
  subst hn
  split at h
  · split at h
    · rename_i b a rest hst
      obtain ⟨S', w2, h', rfl⟩ := sv_pr_ok h
      refine sv_cnt hPx (hk _ List.mem_cons_self) (fun κ H locs cells slots ρ ls st hS => ?_)
      have hs0 := hS.2.2.1
      rw [hst] at hs0
      obtain ⟨v1, vs1, rfl, q1, hs1⟩ := sv_StOk_cons hs0
      obtain ⟨v2, vs2, rfl, q2, hs⟩ := sv_StOk_cons hs1
      obtain ⟨y, rfl, p1⟩ := sv_VOk1 q1
      obtain ⟨x, rfl, p2⟩ := sv_VOk1 q2
      obtain ⟨τ, hz⟩ := sv_res_ok (t := 1) (v := .int (x + y)) hS hs h' (sv_ev_add p2 p1) rfl (by decide) (sv_r1 _).1 (sv_r1 _).2 (fun h1 h2 => by show (x + y).toInt = _; rw [Int32.toInt_add, sv_bm32 h1 h2])
      exact ⟨τ, _, hz, fun k => lv_iadd hx hb hd k⟩
    · simp at h
  · split at h
    · rename_i b a rest hst
      obtain ⟨S', w2, h', rfl⟩ := sv_pr_ok h
      refine sv_cnt hPx (hk _ List.mem_cons_self) (fun κ H locs cells slots ρ ls st hS => ?_)
      have hs0 := hS.2.2.1
      rw [hst] at hs0
      obtain ⟨v1, vs1, rfl, q1, hs1⟩ := sv_StOk_cons hs0
      obtain ⟨v2, vs2, rfl, q2, hs⟩ := sv_StOk_cons hs1
      obtain ⟨y, rfl, p1⟩ := sv_VOk1 q1
      obtain ⟨x, rfl, p2⟩ := sv_VOk1 q2
      obtain ⟨τ, hz⟩ := sv_res_ok (t := 1) (v := .int (x - y)) hS hs h' (sv_ev_sub p2 p1) rfl (by decide) (sv_r1 _).1 (sv_r1 _).2 (fun h1 h2 => by show (x - y).toInt = _; rw [Int32.toInt_sub, sv_bm32 h1 h2])
      exact ⟨τ, _, hz, fun k => lv_isub hx hb hd k⟩
    · simp at h
  · split at h
    · rename_i b a rest hst
      obtain ⟨S', w2, h', rfl⟩ := sv_pr_ok h
      refine sv_cnt hPx (hk _ List.mem_cons_self) (fun κ H locs cells slots ρ ls st hS => ?_)
      have hs0 := hS.2.2.1
      rw [hst] at hs0
      obtain ⟨v1, vs1, rfl, q1, hs1⟩ := sv_StOk_cons hs0
      obtain ⟨v2, vs2, rfl, q2, hs⟩ := sv_StOk_cons hs1
      obtain ⟨y, rfl, p1⟩ := sv_VOk2 q1
      obtain ⟨x, rfl, p2⟩ := sv_VOk2 q2
      obtain ⟨τ, hz⟩ := sv_res_ok (t := 2) (v := .long (x + y)) hS hs h' (sv_ev_add p2 p1) rfl (by decide) (sv_r2 _).1 (sv_r2 _).2 (fun h1 h2 => by show (x + y).toInt = _; rw [Int64.toInt_add, sv_bm64 h1 h2])
      exact ⟨τ, _, hz, fun k => lv_ladd hx hb hd k⟩
    · simp at h
  · split at h
    · rename_i b a rest hst
      obtain ⟨S', w2, h', rfl⟩ := sv_pr_ok h
      refine sv_cnt hPx (hk _ List.mem_cons_self) (fun κ H locs cells slots ρ ls st hS => ?_)
      have hs0 := hS.2.2.1
      rw [hst] at hs0
      obtain ⟨v1, vs1, rfl, q1, hs1⟩ := sv_StOk_cons hs0
      obtain ⟨v2, vs2, rfl, q2, hs⟩ := sv_StOk_cons hs1
      obtain ⟨y, rfl, p1⟩ := sv_VOk2 q1
      obtain ⟨x, rfl, p2⟩ := sv_VOk2 q2
      obtain ⟨τ, hz⟩ := sv_res_ok (t := 2) (v := .long (x - y)) hS hs h' (sv_ev_sub p2 p1) rfl (by decide) (sv_r2 _).1 (sv_r2 _).2 (fun h1 h2 => by show (x - y).toInt = _; rw [Int64.toInt_sub, sv_bm64 h1 h2])
      exact ⟨τ, _, hz, fun k => lv_lsub hx hb hd k⟩
    · simp at h
  · split at h
    · rename_i a rest hst
      obtain ⟨S', w2, h', rfl⟩ := sv_pr_ok h
      refine sv_cnt hPx (hk _ List.mem_cons_self) (fun κ H locs cells slots ρ ls st hS => ?_)
      have hs0 := hS.2.2.1
      rw [hst] at hs0
      obtain ⟨v1, vs1, rfl, q1, hs⟩ := sv_StOk_cons hs0
      obtain ⟨x, rfl, p1⟩ := sv_VOk1 q1
      obtain ⟨τ, hz⟩ := sv_res_ok (t := 1) (z := -x.toInt) (v := .int (-x)) hS hs h' (by rw [sv_ev_sc p1]; congr 1; omega) rfl (by decide) (sv_r1 _).1 (sv_r1 _).2 (fun h1 h2 => by show (-x).toInt = _; rw [Int32.toInt_neg, sv_bm32 h1 h2])
      exact ⟨τ, _, hz, fun k => lv_ineg hx hb hd k⟩
    · simp at h
  · split at h
    · rename_i a rest hst
      obtain ⟨S', w2, h', rfl⟩ := sv_pr_ok h
      refine sv_cnt hPx (hk _ List.mem_cons_self) (fun κ H locs cells slots ρ ls st hS => ?_)
      have hs0 := hS.2.2.1
      rw [hst] at hs0
      obtain ⟨v1, vs1, rfl, q1, hs⟩ := sv_StOk_cons hs0
      obtain ⟨x, rfl, p1⟩ := sv_VOk2 q1
      obtain ⟨τ, hz⟩ := sv_res_ok (t := 2) (z := -x.toInt) (v := .long (-x)) hS hs h' (by rw [sv_ev_sc p1]; congr 1; omega) rfl (by decide) (sv_r2 _).1 (sv_r2 _).2 (fun h1 h2 => by show (-x).toInt = _; rw [Int64.toInt_neg, sv_bm64 h1 h2])
      exact ⟨τ, _, hz, fun k => lv_lneg hx hb hd k⟩
    · simp at h
  · split at h
    · rename_i b a rest hst
      split at h
      · rename_i k hc
        obtain ⟨S', w2, h', rfl⟩ := sv_pr_ok h
        refine sv_cnt hPx (hk _ List.mem_cons_self) (fun κ H locs cells slots ρ ls st hS => ?_)
        have hs0 := hS.2.2.1
        rw [hst] at hs0
        obtain ⟨v1, vs1, rfl, q1, hs1⟩ := sv_StOk_cons hs0
        obtain ⟨v2, vs2, rfl, q2, hs⟩ := sv_StOk_cons hs1
        obtain ⟨y, rfl, p1⟩ := sv_VOk1 q1
        obtain ⟨x, rfl, p2⟩ := sv_VOk1 q2
        have e1 := sv_cst_ok hS.1 p1 hc
        obtain ⟨τ, hz⟩ := sv_res_ok (t := 1) (z := x.toInt * y.toInt) (v := .int (x * y)) hS hs h' (by rw [sv_ev_sc p2, ← e1, Int.mul_comm]) rfl (by decide) (sv_r1 _).1 (sv_r1 _).2 (fun h1 h2 => by show (x * y).toInt = _; rw [Int32.toInt_mul, sv_bm32 h1 h2])
        exact ⟨τ, _, hz, fun k => lv_imul hx hb hd k⟩
      · split at h
        · rename_i k hc
          obtain ⟨S', w2, h', rfl⟩ := sv_pr_ok h
          refine sv_cnt hPx (hk _ List.mem_cons_self) (fun κ H locs cells slots ρ ls st hS => ?_)
          have hs0 := hS.2.2.1
          rw [hst] at hs0
          obtain ⟨v1, vs1, rfl, q1, hs1⟩ := sv_StOk_cons hs0
          obtain ⟨v2, vs2, rfl, q2, hs⟩ := sv_StOk_cons hs1
          obtain ⟨y, rfl, p1⟩ := sv_VOk1 q1
          obtain ⟨x, rfl, p2⟩ := sv_VOk1 q2
          have e1 := sv_cst_ok hS.1 p2 hc
          obtain ⟨τ, hz⟩ := sv_res_ok (t := 1) (z := x.toInt * y.toInt) (v := .int (x * y)) hS hs h' (by rw [sv_ev_sc p1, ← e1]) rfl (by decide) (sv_r1 _).1 (sv_r1 _).2 (fun h1 h2 => by show (x * y).toInt = _; rw [Int32.toInt_mul, sv_bm32 h1 h2])
          exact ⟨τ, _, hz, fun k => lv_imul hx hb hd k⟩
        · obtain ⟨S', h', rfl⟩ := sv_pc_ok h
          simp only [Option.some.injEq] at h'
          subst h'
          refine sv_cnt hPx (hk _ List.mem_cons_self) (fun κ H locs cells slots ρ ls st hS => ?_)
          have hs0 := hS.2.2.1
          rw [hst] at hs0
          obtain ⟨v1, vs1, rfl, q1, hs1⟩ := sv_StOk_cons hs0
          obtain ⟨v2, vs2, rfl, q2, hs⟩ := sv_StOk_cons hs1
          obtain ⟨y, rfl, p1⟩ := sv_VOk1 q1
          obtain ⟨x, rfl, p2⟩ := sv_VOk1 q2
          refine ⟨[(x * y).toInt], _, sv_mulv_ok (t := 1) (v := .int (x * y)) hS hs p2 p1 rfl (by decide) (sv_r1 _).1 (sv_r1 _).2 (fun h1 h2 => by show (x * y).toInt = _; rw [Int32.toInt_mul, sv_bm32 h1 h2]) (by decide), fun k => lv_imul hx hb hd k⟩
    · simp at h
  · split at h
    · rename_i b a rest hst
      split at h
      · rename_i k hc
        obtain ⟨S', w2, h', rfl⟩ := sv_pr_ok h
        refine sv_cnt hPx (hk _ List.mem_cons_self) (fun κ H locs cells slots ρ ls st hS => ?_)
        have hs0 := hS.2.2.1
        rw [hst] at hs0
        obtain ⟨v1, vs1, rfl, q1, hs1⟩ := sv_StOk_cons hs0
        obtain ⟨v2, vs2, rfl, q2, hs⟩ := sv_StOk_cons hs1
        obtain ⟨y, rfl, p1⟩ := sv_VOk2 q1
        obtain ⟨x, rfl, p2⟩ := sv_VOk2 q2
        have e1 := sv_cst_ok hS.1 p1 hc
        obtain ⟨τ, hz⟩ := sv_res_ok (t := 2) (z := x.toInt * y.toInt) (v := .long (x * y)) hS hs h' (by rw [sv_ev_sc p2, ← e1, Int.mul_comm]) rfl (by decide) (sv_r2 _).1 (sv_r2 _).2 (fun h1 h2 => by show (x * y).toInt = _; rw [Int64.toInt_mul, sv_bm64 h1 h2])
        exact ⟨τ, _, hz, fun k => lv_lmul hx hb hd k⟩
      · split at h
        · rename_i k hc
          obtain ⟨S', w2, h', rfl⟩ := sv_pr_ok h
          refine sv_cnt hPx (hk _ List.mem_cons_self) (fun κ H locs cells slots ρ ls st hS => ?_)
          have hs0 := hS.2.2.1
          rw [hst] at hs0
          obtain ⟨v1, vs1, rfl, q1, hs1⟩ := sv_StOk_cons hs0
          obtain ⟨v2, vs2, rfl, q2, hs⟩ := sv_StOk_cons hs1
          obtain ⟨y, rfl, p1⟩ := sv_VOk2 q1
          obtain ⟨x, rfl, p2⟩ := sv_VOk2 q2
          have e1 := sv_cst_ok hS.1 p2 hc
          obtain ⟨τ, hz⟩ := sv_res_ok (t := 2) (z := x.toInt * y.toInt) (v := .long (x * y)) hS hs h' (by rw [sv_ev_sc p1, ← e1]) rfl (by decide) (sv_r2 _).1 (sv_r2 _).2 (fun h1 h2 => by show (x * y).toInt = _; rw [Int64.toInt_mul, sv_bm64 h1 h2])
          exact ⟨τ, _, hz, fun k => lv_lmul hx hb hd k⟩
        · obtain ⟨S', h', rfl⟩ := sv_pc_ok h
          simp only [Option.some.injEq] at h'
          subst h'
          refine sv_cnt hPx (hk _ List.mem_cons_self) (fun κ H locs cells slots ρ ls st hS => ?_)
          have hs0 := hS.2.2.1
          rw [hst] at hs0
          obtain ⟨v1, vs1, rfl, q1, hs1⟩ := sv_StOk_cons hs0
          obtain ⟨v2, vs2, rfl, q2, hs⟩ := sv_StOk_cons hs1
          obtain ⟨y, rfl, p1⟩ := sv_VOk2 q1
          obtain ⟨x, rfl, p2⟩ := sv_VOk2 q2
          refine ⟨[(x * y).toInt], _, sv_mulv_ok (t := 2) (v := .long (x * y)) hS hs p2 p1 rfl (by decide) (sv_r2 _).1 (sv_r2 _).2 (fun h1 h2 => by show (x * y).toInt = _; rw [Int64.toInt_mul, sv_bm64 h1 h2]) (by decide), fun k => lv_lmul hx hb hd k⟩
    · simp at h
  · split at h
    · rename_i b a rest hst
      split at h
      · rename_i k hc
        cases hq : sv_le 1 k with
        | false => simp only [hq, cond_false] at h; cases h
        | true =>
        simp only [hq, cond_true] at h
        have hq := (sv_le_iff _ _).mp hq
        obtain ⟨S', h', rfl⟩ := sv_pc_ok h
        refine sv_cnt hPx (hk _ List.mem_cons_self) (fun κ H locs cells slots ρ ls st hS => ?_)
        have hs0 := hS.2.2.1
        rw [hst] at hs0
        obtain ⟨v1, vs1, rfl, q1, hs1⟩ := sv_StOk_cons hs0
        obtain ⟨v2, vs2, rfl, q2, hs⟩ := sv_StOk_cons hs1
        obtain ⟨y, rfl, p1⟩ := sv_VOk1 q1
        obtain ⟨x, rfl, p2⟩ := sv_VOk1 q2
        have e1 := sv_cst_ok hS.1 p1 hc
        have e2 : (x / y).toInt = x.toInt.tdiv k := by
          rw [← e1]
          exact Int32.toInt_div_of_ne_right x y (sv_nm32 (by omega))
        exact ⟨[(x / y).toInt], _, sv_divk_ok (t := 1) (v := .int (x / y)) hS hs h' hq p2 rfl (by decide) e2 (sv_r1 _).1 (sv_r1 _).2, fun k => lv_idiv hx hb hd (sv_n032 (by omega)) k⟩
      · split at h
        · rename_i k hl
          cases hq : sv_le 1 k with
          | false => simp only [hq, cond_false] at h; cases h
          | true =>
          simp only [hq, cond_true] at h
          have hq := (sv_le_iff _ _).mp hq
          obtain ⟨S', h', rfl⟩ := sv_pc_ok h
          simp only [Option.some.injEq] at h'
          subst h'
          refine sv_cnt hPx (hk _ List.mem_cons_self) (fun κ H locs cells slots ρ ls st hS => ?_)
          have hs0 := hS.2.2.1
          rw [hst] at hs0
          obtain ⟨v1, vs1, rfl, q1, hs1⟩ := sv_StOk_cons hs0
          obtain ⟨v2, vs2, rfl, q2, hs⟩ := sv_StOk_cons hs1
          obtain ⟨y, rfl, p1⟩ := sv_VOk1 q1
          obtain ⟨x, rfl, p2⟩ := sv_VOk1 q2
          have e1 := sv_lb_ok hS.1 p1 hl
          exact ⟨[(x / y).toInt], _, sv_fresh_ok (t := 1) (v := .int (x / y)) hS hs rfl (by decide) (sv_r1 _).1 (sv_r1 _).2, fun k => lv_idiv hx hb hd (sv_n032 (by omega)) k⟩
        · simp at h
    · simp at h
  · split at h
    · rename_i b a rest hst
      split at h
      · rename_i k hc
        cases hq : sv_le 1 k with
        | false => simp only [hq, cond_false] at h; cases h
        | true =>
        simp only [hq, cond_true] at h
        have hq := (sv_le_iff _ _).mp hq
        obtain ⟨S', h', rfl⟩ := sv_pc_ok h
        refine sv_cnt hPx (hk _ List.mem_cons_self) (fun κ H locs cells slots ρ ls st hS => ?_)
        have hs0 := hS.2.2.1
        rw [hst] at hs0
        obtain ⟨v1, vs1, rfl, q1, hs1⟩ := sv_StOk_cons hs0
        obtain ⟨v2, vs2, rfl, q2, hs⟩ := sv_StOk_cons hs1
        obtain ⟨y, rfl, p1⟩ := sv_VOk2 q1
        obtain ⟨x, rfl, p2⟩ := sv_VOk2 q2
        have e1 := sv_cst_ok hS.1 p1 hc
        have e2 : (x / y).toInt = x.toInt.tdiv k := by
          rw [← e1]
          exact Int64.toInt_div_of_ne_right x y (sv_nm64 (by omega))
        exact ⟨[(x / y).toInt], _, sv_divk_ok (t := 2) (v := .long (x / y)) hS hs h' hq p2 rfl (by decide) e2 (sv_r2 _).1 (sv_r2 _).2, fun k => lv_ldiv hx hb hd (sv_n064 (by omega)) k⟩
      · simp at h
    · simp at h
  · split at h
    · rename_i b a rest hst
      split at h
      · rename_i k hc
        cases hq : sv_le 1 k with
        | false => simp only [hq, cond_false] at h; cases h
        | true =>
        simp only [hq, cond_true] at h
        have hq := (sv_le_iff _ _).mp hq
        obtain ⟨S', h', rfl⟩ := sv_pc_ok h
        refine sv_cnt hPx (hk _ List.mem_cons_self) (fun κ H locs cells slots ρ ls st hS => ?_)
        have hs0 := hS.2.2.1
        rw [hst] at hs0
        obtain ⟨v1, vs1, rfl, q1, hs1⟩ := sv_StOk_cons hs0
        obtain ⟨v2, vs2, rfl, q2, hs⟩ := sv_StOk_cons hs1
        obtain ⟨y, rfl, p1⟩ := sv_VOk1 q1
        obtain ⟨x, rfl, p2⟩ := sv_VOk1 q2
        have e1 := sv_cst_ok hS.1 p1 hc
        have e2 : (x - x / y * y).toInt = x.toInt.tmod k := by
          rw [← e1]
          exact sv_rem32 x y (by omega)
        obtain ⟨τ, hz⟩ := sv_remk_ok (t := 1) (v := .int (x - x / y * y)) hS hs h' hq p2 rfl (by decide) e2
        exact ⟨τ, _, hz, fun k => lv_irem hx hb hd (sv_n032 (by omega)) k⟩
      · split at h
        · rename_i k hl
          cases hq : sv_le 1 k with
          | false => simp only [hq, cond_false] at h; cases h
          | true =>
          simp only [hq, cond_true] at h
          have hq := (sv_le_iff _ _).mp hq
          obtain ⟨S', h', rfl⟩ := sv_pc_ok h
          simp only [Option.some.injEq] at h'
          subst h'
          refine sv_cnt hPx (hk _ List.mem_cons_self) (fun κ H locs cells slots ρ ls st hS => ?_)
          have hs0 := hS.2.2.1
          rw [hst] at hs0
          obtain ⟨v1, vs1, rfl, q1, hs1⟩ := sv_StOk_cons hs0
          obtain ⟨v2, vs2, rfl, q2, hs⟩ := sv_StOk_cons hs1
          obtain ⟨y, rfl, p1⟩ := sv_VOk1 q1
          obtain ⟨x, rfl, p2⟩ := sv_VOk1 q2
          have e1 := sv_lb_ok hS.1 p1 hl
          exact ⟨[(x - x / y * y).toInt], _, sv_fresh_ok (t := 1) (v := .int (x - x / y * y)) hS hs rfl (by decide) (sv_r1 _).1 (sv_r1 _).2, fun k => lv_irem hx hb hd (sv_n032 (by omega)) k⟩
        · simp at h
    · simp at h
  · split at h
    · rename_i b a rest hst
      obtain ⟨S', w2, h', rfl⟩ := sv_pr_ok h
      refine sv_cnt hPx (hk _ List.mem_cons_self) (fun κ H locs cells slots ρ ls st hS => ?_)
      have hs0 := hS.2.2.1
      rw [hst] at hs0
      obtain ⟨v1, vs1, rfl, q1, hs1⟩ := sv_StOk_cons hs0
      obtain ⟨v2, vs2, rfl, q2, hs⟩ := sv_StOk_cons hs1
      obtain ⟨y, rfl, p1⟩ := sv_VOk1 q1
      obtain ⟨x, rfl, p2⟩ := sv_VOk1 q2
      obtain ⟨τ, hz⟩ := sv_and_ok (t := 1) (v := .int (x &&& y)) (x := x.toBitVec) (y := y.toBitVec) hS hs h' p2 p1 rfl (by decide) rfl rfl (sv_r1 _).1 (sv_r1 _).2
      exact ⟨τ, _, hz, fun k => lv_iand hx hb hd k⟩
    · simp at h
  · split at h
    · rename_i b a rest hst
      obtain ⟨S', w2, h', rfl⟩ := sv_pr_ok h
      refine sv_cnt hPx (hk _ List.mem_cons_self) (fun κ H locs cells slots ρ ls st hS => ?_)
      have hs0 := hS.2.2.1
      rw [hst] at hs0
      obtain ⟨v1, vs1, rfl, q1, hs1⟩ := sv_StOk_cons hs0
      obtain ⟨v2, vs2, rfl, q2, hs⟩ := sv_StOk_cons hs1
      obtain ⟨y, rfl, p1⟩ := sv_VOk2 q1
      obtain ⟨x, rfl, p2⟩ := sv_VOk2 q2
      obtain ⟨τ, hz⟩ := sv_and_ok (t := 2) (v := .long (x &&& y)) (x := x.toBitVec) (y := y.toBitVec) hS hs h' p2 p1 rfl (by decide) rfl rfl (sv_r2 _).1 (sv_r2 _).2
      exact ⟨τ, _, hz, fun k => lv_land hx hb hd k⟩
    · simp at h
  · split at h
    · rename_i b a rest hst
      obtain ⟨S', w2, h', rfl⟩ := sv_pr_ok h
      refine sv_cnt hPx (hk _ List.mem_cons_self) (fun κ H locs cells slots ρ ls st hS => ?_)
      have hs0 := hS.2.2.1
      rw [hst] at hs0
      obtain ⟨v1, vs1, rfl, q1, hs1⟩ := sv_StOk_cons hs0
      obtain ⟨v2, vs2, rfl, q2, hs⟩ := sv_StOk_cons hs1
      obtain ⟨y, rfl, p1⟩ := sv_VOk1 q1
      obtain ⟨x, rfl, p2⟩ := sv_VOk1 q2
      obtain ⟨τ, hz⟩ := sv_or2_ok (t := 1) (v := .int (x ||| y)) (x := x.toBitVec) (y := y.toBitVec) hS hs h' p2 p1 rfl (by decide) rfl (Or.inl ⟨rfl, rfl⟩) (sv_r1 _).1 (sv_r1 _).2 (by decide)
      exact ⟨τ, _, hz, fun k => lv_ior hx hb hd k⟩
    · simp at h
  · split at h
    · rename_i b a rest hst
      obtain ⟨S', w2, h', rfl⟩ := sv_pr_ok h
      refine sv_cnt hPx (hk _ List.mem_cons_self) (fun κ H locs cells slots ρ ls st hS => ?_)
      have hs0 := hS.2.2.1
      rw [hst] at hs0
      obtain ⟨v1, vs1, rfl, q1, hs1⟩ := sv_StOk_cons hs0
      obtain ⟨v2, vs2, rfl, q2, hs⟩ := sv_StOk_cons hs1
      obtain ⟨y, rfl, p1⟩ := sv_VOk2 q1
      obtain ⟨x, rfl, p2⟩ := sv_VOk2 q2
      obtain ⟨τ, hz⟩ := sv_or2_ok (t := 2) (v := .long (x ||| y)) (x := x.toBitVec) (y := y.toBitVec) hS hs h' p2 p1 rfl (by decide) rfl (Or.inl ⟨rfl, rfl⟩) (sv_r2 _).1 (sv_r2 _).2 (by decide)
      exact ⟨τ, _, hz, fun k => lv_lor hx hb hd k⟩
    · simp at h
  · split at h
    · rename_i b a rest hst
      obtain ⟨S', w2, h', rfl⟩ := sv_pr_ok h
      refine sv_cnt hPx (hk _ List.mem_cons_self) (fun κ H locs cells slots ρ ls st hS => ?_)
      have hs0 := hS.2.2.1
      rw [hst] at hs0
      obtain ⟨v1, vs1, rfl, q1, hs1⟩ := sv_StOk_cons hs0
      obtain ⟨v2, vs2, rfl, q2, hs⟩ := sv_StOk_cons hs1
      obtain ⟨y, rfl, p1⟩ := sv_VOk1 q1
      obtain ⟨x, rfl, p2⟩ := sv_VOk1 q2
      obtain ⟨τ, hz⟩ := sv_or_ok (t := 1) (v := .int (x ^^^ y)) (x := x.toBitVec) (y := y.toBitVec) hS hs h' p2 p1 rfl (by decide) rfl (Or.inr ⟨rfl, rfl⟩) (sv_r1 _).1 (sv_r1 _).2 (by decide)
      exact ⟨τ, _, hz, fun k => lv_ixor hx hb hd k⟩
    · simp at h
  · split at h
    · rename_i b a rest hst
      obtain ⟨S', w2, h', rfl⟩ := sv_pr_ok h
      refine sv_cnt hPx (hk _ List.mem_cons_self) (fun κ H locs cells slots ρ ls st hS => ?_)
      have hs0 := hS.2.2.1
      rw [hst] at hs0
      obtain ⟨v1, vs1, rfl, q1, hs1⟩ := sv_StOk_cons hs0
      obtain ⟨v2, vs2, rfl, q2, hs⟩ := sv_StOk_cons hs1
      obtain ⟨y, rfl, p1⟩ := sv_VOk2 q1
      obtain ⟨x, rfl, p2⟩ := sv_VOk2 q2
      obtain ⟨τ, hz⟩ := sv_or_ok (t := 2) (v := .long (x ^^^ y)) (x := x.toBitVec) (y := y.toBitVec) hS hs h' p2 p1 rfl (by decide) rfl (Or.inr ⟨rfl, rfl⟩) (sv_r2 _).1 (sv_r2 _).2 (by decide)
      exact ⟨τ, _, hz, fun k => lv_lxor hx hb hd k⟩
    · simp at h
  · split at h
    · rename_i b a rest hst
      split at h
      · rename_i k hc
        obtain ⟨S', w2, h', rfl⟩ := sv_pr_ok h
        refine sv_cnt hPx (hk _ List.mem_cons_self) (fun κ H locs cells slots ρ ls st hS => ?_)
        have hs0 := hS.2.2.1
        rw [hst] at hs0
        obtain ⟨v1, vs1, rfl, q1, hs1⟩ := sv_StOk_cons hs0
        obtain ⟨v2, vs2, rfl, q2, hs⟩ := sv_StOk_cons hs1
        obtain ⟨y, rfl, p1⟩ := sv_VOk1 q1
        obtain ⟨x, rfl, p2⟩ := sv_VOk1 q2
        obtain ⟨e1, e2⟩ := sv_sel_ok hS.1 p1 hc
        obtain ⟨τ, hz⟩ := sv_res_ok (t := 1) (z := x.toInt * ((2 ^ k : Nat) : Int)) (v := .int (x <<< (y &&& 31))) hS hs h' (by rw [sv_ev_sc p2, Int.mul_comm]; rfl) rfl (by decide) (sv_r1 _).1 (sv_r1 _).2 (fun h1 h2 => by show (x <<< (y &&& 31)).toInt = _; rw [sv_shl32 x y e2 e1, sv_bm32 h1 h2])
        exact ⟨τ, _, hz, fun k => lv_ishl hx hb hd k⟩
      · obtain ⟨S', h', rfl⟩ := sv_pc_ok h
        simp only [Option.some.injEq] at h'
        subst h'
        refine sv_cnt hPx (hk _ List.mem_cons_self) (fun κ H locs cells slots ρ ls st hS => ?_)
        have hs0 := hS.2.2.1
        rw [hst] at hs0
        obtain ⟨v1, vs1, rfl, q1, hs1⟩ := sv_StOk_cons hs0
        obtain ⟨v2, vs2, rfl, q2, hs⟩ := sv_StOk_cons hs1
        obtain ⟨y, rfl, p1⟩ := sv_VOk1 q1
        obtain ⟨x, rfl, p2⟩ := sv_VOk1 q2
        exact ⟨[(x <<< (y &&& 31)).toInt], _, sv_fresh_ok (t := 1) (v := .int (x <<< (y &&& 31))) hS hs rfl (by decide) (sv_r1 _).1 (sv_r1 _).2, fun k => lv_ishl hx hb hd k⟩
    · simp at h
  · split at h
    · rename_i z1 z2 rest hst
      obtain ⟨S', h', rfl⟩ := sv_pc_ok h
      simp only [Option.some.injEq] at h'
      subst h'
      refine sv_cnt hPx (hk _ List.mem_cons_self) (fun κ H locs cells slots ρ ls st hS => ?_)
      have hs0 := hS.2.2.1
      rw [hst] at hs0
      obtain ⟨v1, vs1, rfl, q1, hs1⟩ := sv_StOk_cons hs0
      obtain ⟨v2, vs2, rfl, q2, hs⟩ := sv_StOk_cons hs1
      obtain ⟨y, rfl, p1⟩ := sv_VOk1 q1
      obtain ⟨x, rfl, p2⟩ := sv_VOk2 q2
      exact ⟨[(x <<< (y.toInt64 &&& 63)).toInt], _, sv_fresh_ok (t := 2) (v := .long (x <<< (y.toInt64 &&& 63))) hS hs rfl (by decide) (sv_r2 _).1 (sv_r2 _).2, fun k => lv_lshl hx hb hd rfl k⟩
    · simp at h
  · split at h
    · rename_i b a rest hst
      split at h
      · rename_i k hc
        obtain ⟨S', h', rfl⟩ := sv_pc_ok h
        refine sv_cnt hPx (hk _ List.mem_cons_self) (fun κ H locs cells slots ρ ls st hS => ?_)
        have hs0 := hS.2.2.1
        rw [hst] at hs0
        obtain ⟨v1, vs1, rfl, q1, hs1⟩ := sv_StOk_cons hs0
        obtain ⟨v2, vs2, rfl, q2, hs⟩ := sv_StOk_cons hs1
        obtain ⟨y, rfl, p1⟩ := sv_VOk1 q1
        obtain ⟨x, rfl, p2⟩ := sv_VOk1 q2
        obtain ⟨e1, e2⟩ := sv_sel_ok hS.1 p1 hc
        exact ⟨[(x >>> (y &&& 31)).toInt], _, sv_shrk_ok (t := 1) (v := .int (x >>> (y &&& 31))) hS hs h' p2 rfl (by decide) (sv_shr32 x y e2 e1), fun k => lv_ishr hx hb hd k⟩
      · obtain ⟨S', h', rfl⟩ := sv_pc_ok h
        simp only [Option.some.injEq] at h'
        subst h'
        refine sv_cnt hPx (hk _ List.mem_cons_self) (fun κ H locs cells slots ρ ls st hS => ?_)
        have hs0 := hS.2.2.1
        rw [hst] at hs0
        obtain ⟨v1, vs1, rfl, q1, hs1⟩ := sv_StOk_cons hs0
        obtain ⟨v2, vs2, rfl, q2, hs⟩ := sv_StOk_cons hs1
        obtain ⟨y, rfl, p1⟩ := sv_VOk1 q1
        obtain ⟨x, rfl, p2⟩ := sv_VOk1 q2
        exact ⟨[(x >>> (y &&& 31)).toInt], _, sv_fresh_ok (t := 1) (v := .int (x >>> (y &&& 31))) hS hs rfl (by decide) (sv_r1 _).1 (sv_r1 _).2, fun k => lv_ishr hx hb hd k⟩
    · simp at h
  · split at h
    · rename_i b a rest hst
      split at h
      · rename_i k hc
        obtain ⟨S', h', rfl⟩ := sv_pc_ok h
        refine sv_cnt hPx (hk _ List.mem_cons_self) (fun κ H locs cells slots ρ ls st hS => ?_)
        have hs0 := hS.2.2.1
        rw [hst] at hs0
        obtain ⟨v1, vs1, rfl, q1, hs1⟩ := sv_StOk_cons hs0
        obtain ⟨v2, vs2, rfl, q2, hs⟩ := sv_StOk_cons hs1
        obtain ⟨y, rfl, p1⟩ := sv_VOk1 q1
        obtain ⟨x, rfl, p2⟩ := sv_VOk2 q2
        obtain ⟨e1, e2⟩ := sv_sel_ok hS.1 p1 hc
        exact ⟨[(x >>> (y.toInt64 &&& 63)).toInt], _, sv_shrk_ok (t := 2) (v := .long (x >>> (y.toInt64 &&& 63))) hS hs h' p2 rfl (by decide) (sv_shr64 x y e2 e1), fun k => lv_lshr hx hb hd rfl k⟩
      · obtain ⟨S', h', rfl⟩ := sv_pc_ok h
        simp only [Option.some.injEq] at h'
        subst h'
        refine sv_cnt hPx (hk _ List.mem_cons_self) (fun κ H locs cells slots ρ ls st hS => ?_)
        have hs0 := hS.2.2.1
        rw [hst] at hs0
        obtain ⟨v1, vs1, rfl, q1, hs1⟩ := sv_StOk_cons hs0
        obtain ⟨v2, vs2, rfl, q2, hs⟩ := sv_StOk_cons hs1
        obtain ⟨y, rfl, p1⟩ := sv_VOk1 q1
        obtain ⟨x, rfl, p2⟩ := sv_VOk2 q2
        exact ⟨[(x >>> (y.toInt64 &&& 63)).toInt], _, sv_fresh_ok (t := 2) (v := .long (x >>> (y.toInt64 &&& 63))) hS hs rfl (by decide) (sv_r2 _).1 (sv_r2 _).2, fun k => lv_lshr hx hb hd rfl k⟩
    · simp at h
  · split at h
    · rename_i b a rest hst
      split at h
      · rename_i k hc
        split at h
        · rename_i lo hl
          cases hq : sv_ge0 lo with
          | true =>
            simp only [hq, cond_true] at h
            obtain ⟨S', h', rfl⟩ := sv_pc_ok h
            refine sv_cnt hPx (hk _ List.mem_cons_self) (fun κ H locs cells slots ρ ls st hS => ?_)
            have hs0 := hS.2.2.1
            rw [hst] at hs0
            obtain ⟨v1, vs1, rfl, q1, hs1⟩ := sv_StOk_cons hs0
            obtain ⟨v2, vs2, rfl, q2, hs⟩ := sv_StOk_cons hs1
            obtain ⟨y, rfl, p1⟩ := sv_VOk1 q1
            obtain ⟨x, rfl, p2⟩ := sv_VOk1 q2
            obtain ⟨e1, e2⟩ := sv_sel_ok hS.1 p1 hc
            have e3 := sv_lb_ok hS.1 p2 hl
            have e4 := (sv_ge0_iff lo).mp hq
            exact ⟨[((x.toUInt32 >>> (y.toUInt32 &&& Int32.toUInt32 31)).toInt32).toInt], _, sv_shrk_ok (t := 1) (v := .int ((x.toUInt32 >>> (y.toUInt32 &&& Int32.toUInt32 31)).toInt32)) hS hs h' p2 rfl (by decide) (sv_ush32 x y e2 e1 (by omega)), fun k => lv_iushr hx hb hd rfl k⟩
          | false =>
            simp only [hq, cond_false] at h
            cases h0 : Nat.beq k 0 with
            | true => simp only [h0, cond_true] at h; cases h
            | false =>
            simp only [h0, cond_false] at h
            obtain ⟨S', h', rfl⟩ := sv_pc_ok h
            simp only [Option.some.injEq] at h'
            subst h'
            refine sv_cnt hPx (hk _ List.mem_cons_self) (fun κ H locs cells slots ρ ls st hS => ?_)
            have hs0 := hS.2.2.1
            rw [hst] at hs0
            obtain ⟨v1, vs1, rfl, q1, hs1⟩ := sv_StOk_cons hs0
            obtain ⟨v2, vs2, rfl, q2, hs⟩ := sv_StOk_cons hs1
            obtain ⟨y, rfl, p1⟩ := sv_VOk1 q1
            obtain ⟨x, rfl, p2⟩ := sv_VOk1 q2
            obtain ⟨e1, e2⟩ := sv_sel_ok hS.1 p1 hc
            have e5 : 0 < k := by
              cases k with
              | zero => exact absurd h0 (by decide)
              | succ k => omega
            obtain ⟨e3, e4⟩ := sv_ush32b x y e2 e5 e1
            have e6 := Nat.two_pow_pos (32 - k)
            refine ⟨[((x.toUInt32 >>> (y.toUInt32 &&& Int32.toUInt32 31)).toInt32).toInt], _, sv_fresh_ok (t := 1) (v := .int ((x.toUInt32 >>> (y.toUInt32 &&& Int32.toUInt32 31)).toInt32)) hS hs rfl (by decide) e3 ?_, fun k => lv_iushr hx hb hd rfl k⟩
            show ((x.toUInt32 >>> (y.toUInt32 &&& Int32.toUInt32 31)).toInt32).toInt ≤ ((2 ^ (32 - k) - 1 : Nat) : Int)
            omega
        · simp at h
      · obtain ⟨S', h', rfl⟩ := sv_pc_ok h
        simp only [Option.some.injEq] at h'
        subst h'
        refine sv_cnt hPx (hk _ List.mem_cons_self) (fun κ H locs cells slots ρ ls st hS => ?_)
        have hs0 := hS.2.2.1
        rw [hst] at hs0
        obtain ⟨v1, vs1, rfl, q1, hs1⟩ := sv_StOk_cons hs0
        obtain ⟨v2, vs2, rfl, q2, hs⟩ := sv_StOk_cons hs1
        obtain ⟨y, rfl, p1⟩ := sv_VOk1 q1
        obtain ⟨x, rfl, p2⟩ := sv_VOk1 q2
        exact ⟨[((x.toUInt32 >>> (y.toUInt32 &&& Int32.toUInt32 31)).toInt32).toInt], _, sv_fresh_ok (t := 1) (v := .int ((x.toUInt32 >>> (y.toUInt32 &&& Int32.toUInt32 31)).toInt32)) hS hs rfl (by decide) (sv_r1 _).1 (sv_r1 _).2, fun k => lv_iushr hx hb hd rfl k⟩
    · simp at h
  · split at h
    · rename_i z1 z2 rest hst
      obtain ⟨S', h', rfl⟩ := sv_pc_ok h
      simp only [Option.some.injEq] at h'
      subst h'
      refine sv_cnt hPx (hk _ List.mem_cons_self) (fun κ H locs cells slots ρ ls st hS => ?_)
      have hs0 := hS.2.2.1
      rw [hst] at hs0
      obtain ⟨v1, vs1, rfl, q1, hs1⟩ := sv_StOk_cons hs0
      obtain ⟨v2, vs2, rfl, q2, hs⟩ := sv_StOk_cons hs1
      obtain ⟨y, rfl, p1⟩ := sv_VOk1 q1
      obtain ⟨x, rfl, p2⟩ := sv_VOk2 q2
      exact ⟨[((x.toUInt64 >>> (y.toInt64.toUInt64 &&& Int64.toUInt64 63)).toInt64).toInt], _, sv_fresh_ok (t := 2) (v := .long ((x.toUInt64 >>> (y.toInt64.toUInt64 &&& Int64.toUInt64 63)).toInt64)) hS hs rfl (by decide) (sv_r2 _).1 (sv_r2 _).2, fun k => lv_lushr hx hb hd rfl k⟩
    · simp at h
  · split at h
    · rename_i a rest hst
      obtain ⟨S', h', rfl⟩ := sv_pc_ok h
      simp only [Option.some.injEq] at h'
      subst h'
      refine sv_cnt hPx (hk _ List.mem_cons_self) (fun κ H locs cells slots ρ ls st hS => ?_)
      have hs0 := hS.2.2.1
      rw [hst] at hs0
      obtain ⟨v1, vs1, rfl, q1, hs⟩ := sv_StOk_cons hs0
      obtain ⟨x, rfl, p1⟩ := sv_VOk1 q1
      exact ⟨[], _, by rw [List.append_nil]; exact sv_stk_ok hS hs (sv_mkV2 (by rw [Int32.toInt_toInt64]; exact p1)), fun k => lv_i2l hx hb hd rfl k⟩
    · simp at h
  · split at h
    · rename_i a rest hst
      obtain ⟨S', w2, h', rfl⟩ := sv_pr_ok h
      refine sv_cnt hPx (hk _ List.mem_cons_self) (fun κ H locs cells slots ρ ls st hS => ?_)
      have hs0 := hS.2.2.1
      rw [hst] at hs0
      obtain ⟨v1, vs1, rfl, q1, hs⟩ := sv_StOk_cons hs0
      obtain ⟨x, rfl, p1⟩ := sv_VOk2 q1
      obtain ⟨τ, hz⟩ := sv_res_ok (t := 1) (v := .int x.toInt32) hS hs h' p1 rfl (by decide) (sv_r1 _).1 (sv_r1 _).2 (fun h1 h2 => by show x.toInt32.toInt = _; rw [Int64.toInt_toInt32, sv_bm32 h1 h2])
      exact ⟨τ, _, hz, fun k => lv_l2i hx hb hd rfl k⟩
    · simp at h
  · split at h
    · rename_i a rest hst
      cases hq : sv_in S.1 a (-128) 127 with
      | true =>
        simp only [hq, cond_true] at h
        obtain ⟨S', h', rfl⟩ := sv_pc_ok h
        simp only [Option.some.injEq] at h'
        subst h'
        refine sv_cnt hPx (hk _ List.mem_cons_self) (fun κ H locs cells slots ρ ls st hS => ?_)
        have hs0 := hS.2.2.1
        rw [hst] at hs0
        obtain ⟨v1, vs1, rfl, q1, hs⟩ := sv_StOk_cons hs0
        obtain ⟨x, rfl, p1⟩ := sv_VOk1 q1
        obtain ⟨e1, e2⟩ := sv_in_ok hS.1 p1 hq
        exact ⟨[], _, by rw [List.append_nil]; exact sv_stk_ok hS hs (sv_mkV1 (x := x.toInt8.toInt32) (by rw [Int8.toInt_toInt32, Int32.toInt_toInt8, Int.bmod_eq_of_le_mul_two (by omega) (by omega)]; exact p1)), fun k => lv_i2b hx hb hd rfl k⟩
      | false =>
        simp only [hq, cond_false] at h
        obtain ⟨S', h', rfl⟩ := sv_pc_ok h
        simp only [Option.some.injEq] at h'
        subst h'
        refine sv_cnt hPx (hk _ List.mem_cons_self) (fun κ H locs cells slots ρ ls st hS => ?_)
        have hs0 := hS.2.2.1
        rw [hst] at hs0
        obtain ⟨v1, vs1, rfl, q1, hs⟩ := sv_StOk_cons hs0
        obtain ⟨x, rfl, p1⟩ := sv_VOk1 q1
        have e1 := Int8.le_toInt x.toInt8
        have e2 := Int8.toInt_lt x.toInt8
        exact ⟨[x.toInt8.toInt32.toInt], _, sv_fresh_ok (t := 1) (v := .int x.toInt8.toInt32) hS hs rfl (by decide) (by show -128 ≤ x.toInt8.toInt32.toInt; rw [Int8.toInt_toInt32]; omega) (by show x.toInt8.toInt32.toInt ≤ 127; rw [Int8.toInt_toInt32]; omega), fun k => lv_i2b hx hb hd rfl k⟩
    · simp at h
  · simp at h
end SVC
end
section
-- ===== assumptions, branches =====
def sv_upl : Nat → Int → List SvB → List SvB
  | _, _, [] => []
  | 0, k, q :: t => (sv_max q.1 k, q.2) :: t
  | v + 1, k, q :: t => q :: sv_upl v k t
def sv_uph : Nat → Int → List SvB → List SvB
  | _, _, [] => []
  | 0, k, q :: t => (q.1, match q.2 with | some h => some (sv_min h k) | none => some k) :: t
  | v + 1, k, q :: t => q :: sv_uph v k t
/-- what is not negative from here on -/
def sv_asm (S : SvS) (e : SvL) : SvS := match e.2 with
  | [] => bif sv_ge0 e.1 then S else (S.1, S.2.1, S.2.2.1, (0, [], [e]) :: S.2.2.2)
  | [(v, c)] => bif sv_ieq c 1 then (sv_upl v (Int.neg e.1) S.1, S.2) else bif sv_ieq c (-1) then (sv_uph v e.1 S.1, S.2) else (S.1, S.2.1, S.2.2.1, (0, [], [e]) :: S.2.2.2)
  | _ => (S.1, S.2.1, S.2.2.1, (0, [], [e]) :: S.2.2.2)
/-- what is not 0: where a bound is 0 it is one more -/
def sv_asn (S : SvS) (e : SvL) : SvS := match sv_lb S.1 e with
  | some lo => bif sv_ieq lo 0 then sv_asm S (sv_addc e (-1)) else match sv_ub S.1 e with
    | some hi => bif sv_ieq hi 0 then sv_asm S (sv_addc (sv_sc (-1) e) (-1)) else S
    | none => S
  | none => match sv_ub S.1 e with
    | some hi => bif sv_ieq hi 0 then sv_asm S (sv_addc (sv_sc (-1) e) (-1)) else S
    | none => S
/-- a condition on d (0 eq, 1 ne, 2 lt, 3 ge, 4 gt, 5 le): d stands to 0 so -/
def sv_cnd (k : Nat) (S : SvS) (d : SvL) : SvS := match k with
  | 0 => sv_asm (sv_asm S d) (sv_sc (-1) d)
  | 1 => sv_asn S d
  | 2 => sv_asm S (sv_addc (sv_sc (-1) d) (-1))
  | 3 => sv_asm S d
  | 4 => sv_asm S (sv_addc d (-1))
  | _ => sv_asm S (sv_sc (-1) d)
def sv_neg (k : Nat) : Nat := match k with
  | 0 => 1
  | 1 => 0
  | 2 => 3
  | 3 => 2
  | 4 => 5
  | _ => 4
def sv_holds (k : Nat) (z : Int) : Prop := match k with
  | 0 => z = 0
  | 1 => z ≠ 0
  | 2 => z < 0
  | 3 => 0 ≤ z
  | 4 => 0 < z
  | _ => z ≤ 0
def sv_ck : Jvm.ClassFile.Cond → Nat
  | .eq => 0
  | .ne => 1
  | .lt => 2
  | .ge => 3
  | .gt => 4
  | .le => 5
/-- where it is known on which side of 0 a form stands, what is not 0 is one more -/
def sv_cnp (s : Int) (k : Nat) (S : SvS) (d : SvL) : SvS := bif Nat.beq k 1 then sv_asm S (sv_addc (sv_sc s d) (-1)) else sv_cnd k S d
/-- 0 as it is | 1 d is not below 0, a certificate | 2 not above -/
def sv_brs (S : SvS) (rest : List SvA) (d : SvL) (k : Nat) (o : Int) (pc : Nat) (w : List Nat) : Option (List (SvS × Nat) × List Nat) := match w with
  | [] => none
  | md :: w1 => bif sv_ge0 (Int.add (Int.ofNat pc) o) then (bif Nat.beq md 0 then some ([(sv_cnd k (S.1, S.2.1, rest, S.2.2.2) d, (Int.add (Int.ofNat pc) o).toNat), (sv_cnd (sv_neg k) (S.1, S.2.1, rest, S.2.2.2) d, pc + 3)], w1)
    else match sv_rcert w1 with
      | some (c, w2) => bif sv_prove S.1 S.2.2.2 c (sv_sc (bif Nat.beq md 1 then 1 else -1) d) then some ([(sv_cnp (bif Nat.beq md 1 then 1 else -1) k (S.1, S.2.1, rest, S.2.2.2) d, (Int.add (Int.ofNat pc) o).toNat), (sv_cnp (bif Nat.beq md 1 then 1 else -1) (sv_neg k) (S.1, S.2.1, rest, S.2.2.2) d, pc + 3)], w2) else none
      | none => none) else none
def sv_tab (S : SvS) (rest : List SvA) (e : SvL) (pc : Nat) : Int → List Int → Option (List (SvS × Nat))
  | _, [] => some []
  | k, o :: t => match sv_tab S rest e pc (Int.add k 1) t with
    | some l => bif sv_ge0 (Int.add (Int.ofNat pc) o) then some ((sv_cnd 0 (S.1, S.2.1, rest, S.2.2.2) (sv_addc e (Int.neg k)), (Int.add (Int.ofNat pc) o).toNat) :: l) else none
    | none => none
/-- branches; a comparison of longs goes with the branch behind it -/
def sv_C (cc : ByteArray) (S : SvS) (pc : Nat) (i : Instr) (n : Nat) (w : List Nat) : Option (List (SvS × Nat) × List Nat) := match i with
  | .ifCond cd o => match S.2.2.1 with | (1, a) :: r => bif Nat.beq n 3 then sv_brs S r a (sv_ck cd) o pc w else none | _ => none
  | .if_icmp cd o => match S.2.2.1 with | (1, b) :: (1, a) :: r => bif Nat.beq n 3 then sv_brs S r (sv_sub a b) (sv_ck cd) o pc w else none | _ => none
  | .lcmp => match S.2.2.1 with
    | (2, b) :: (2, a) :: r => bif Nat.beq n 1 then (match decode cc (pc + 1) with
      | .ok (.ifCond cd o, 3) => sv_brs S r (sv_sub a b) (sv_ck cd) o (pc + 1) w
      | _ => none) else none
    | _ => none
  | .ifnull o => match S.2.2.1 with | (3, a) :: r => bif Nat.beq n 3 && sv_ge0 (Int.add (Int.ofNat pc) o) then some ([(sv_cnd 0 (S.1, S.2.1, r, S.2.2.2) (sv_addc a 1), (Int.add (Int.ofNat pc) o).toNat), (sv_asm (S.1, S.2.1, r, S.2.2.2) a, pc + 3)], w) else none | _ => none
  | .ifnonnull o => match S.2.2.1 with | (3, a) :: r => bif Nat.beq n 3 && sv_ge0 (Int.add (Int.ofNat pc) o) then some ([(sv_asm (S.1, S.2.1, r, S.2.2.2) a, (Int.add (Int.ofNat pc) o).toNat), (sv_cnd 0 (S.1, S.2.1, r, S.2.2.2) (sv_addc a 1), pc + 3)], w) else none | _ => none
  | .tableswitch df lo hi offs => match S.2.2.1 with
    | (1, a) :: r => match sv_tab S r a pc lo offs.toList with
      | some l => bif sv_ge0 (Int.add (Int.ofNat pc) df) && sv_ieq (Int.add lo (Int.ofNat offs.toList.length)) (Int.add hi 1) then some ((sv_asm (S.1, S.2.1, r, S.2.2.2) (sv_addc (sv_sc (-1) a) (Int.sub lo 1)), (Int.add (Int.ofNat pc) df).toNat) :: (sv_asm (S.1, S.2.1, r, S.2.2.2) (sv_addc a (Int.sub (-1) hi)), (Int.add (Int.ofNat pc) df).toNat) :: l, w) else none
      | none => none
    | _ => none
  | _ => none
theorem sv_upl_ok {ρ : List Int} {b : List SvB} (hb : sv_BOk ρ b) {v : Nat} {k x : Int} (hv : sv_nth ρ v = some x) (h : k ≤ x) : sv_BOk ρ (sv_upl v k b) := by
  have hl : ∀ (b : List SvB) (v : Nat), (sv_upl v k b).length = b.length := by
    intro b
    induction b with
    | nil => intro v; simp [sv_upl, sv_uph]
    | cons q t ih =>
      intro v
      cases v with
      | zero => rfl
      | succ v => simp only [sv_upl, List.length_cons, ih]
  have hn : ∀ (b : List SvB) (v i : Nat) (q : SvB), sv_nth (sv_upl v k b) i = some q → sv_nth b i = some q ∨ (i = v ∧ ∃ q0, sv_nth b i = some q0 ∧ q = (sv_max q0.1 k, q0.2)) := by
    intro b
    induction b with
    | nil => intro v i q h; simp [sv_upl, sv_nth] at h
    | cons q0 t ih =>
      intro v i q h
      cases v with
      | zero =>
        cases i with
        | zero =>
          simp only [sv_upl, sv_nth, Option.some.injEq] at h
          exact Or.inr ⟨rfl, q0, rfl, h.symm⟩
        | succ i => exact Or.inl h
      | succ v =>
        cases i with
        | zero => exact Or.inl h
        | succ i =>
          simp only [sv_upl, sv_nth] at h
          rcases ih v i q h with h | ⟨h1, h2⟩
          · exact Or.inl h
          · exact Or.inr ⟨by omega, h2⟩
  refine ⟨by rw [hl]; exact hb.1, fun i y q hy hq => ?_⟩
  rcases hn b v i q hq with h1 | ⟨rfl, q0, h1, rfl⟩
  · exact hb.2 i y q hy h1
  · rw [hv] at hy
    cases hy
    have h2 := hb.2 i x q0 hv h1
    refine ⟨?_, h2.2⟩
    show sv_max q0.1 k ≤ x
    unfold sv_max
    cases sv_le q0.1 k with
    | true => exact h
    | false => exact h2.1
theorem sv_uph_ok {ρ : List Int} {b : List SvB} (hb : sv_BOk ρ b) {v : Nat} {k x : Int} (hv : sv_nth ρ v = some x) (h : x ≤ k) : sv_BOk ρ (sv_uph v k b) := by
  have hl : ∀ (b : List SvB) (v : Nat), (sv_uph v k b).length = b.length := by
    intro b
    induction b with
    | nil => intro v; simp [sv_upl, sv_uph]
    | cons q t ih =>
      intro v
      cases v with
      | zero => rfl
      | succ v => simp only [sv_uph, List.length_cons, ih]
  have hn : ∀ (b : List SvB) (v i : Nat) (q : SvB), sv_nth (sv_uph v k b) i = some q → sv_nth b i = some q ∨ (i = v ∧ ∃ q0, sv_nth b i = some q0 ∧ q = (q0.1, match q0.2 with | some h => some (sv_min h k) | none => some k)) := by
    intro b
    induction b with
    | nil => intro v i q h; simp [sv_uph, sv_nth] at h
    | cons q0 t ih =>
      intro v i q h
      cases v with
      | zero =>
        cases i with
        | zero =>
          simp only [sv_uph, sv_nth, Option.some.injEq] at h
          exact Or.inr ⟨rfl, q0, rfl, h.symm⟩
        | succ i => exact Or.inl h
      | succ v =>
        cases i with
        | zero => exact Or.inl h
        | succ i =>
          simp only [sv_uph, sv_nth] at h
          rcases ih v i q h with h | ⟨h1, h2⟩
          · exact Or.inl h
          · exact Or.inr ⟨by omega, h2⟩
  refine ⟨by rw [hl]; exact hb.1, fun i y q hy hq => ?_⟩
  rcases hn b v i q hq with h1 | ⟨rfl, q0, h1, rfl⟩
  · exact hb.2 i y q hy h1
  · rw [hv] at hy
    cases hy
    have h2 := hb.2 i x q0 hv h1
    refine ⟨h2.1, fun h3 h4 => ?_⟩
    cases hq0 : q0.2 with
    | none =>
      simp only [hq0, Option.some.injEq] at h4
      omega
    | some h5 =>
      simp only [hq0, Option.some.injEq] at h4
      have h6 := h2.2 h5 hq0
      rw [← h4]
      unfold sv_min
      cases sv_le h5 k with
      | true => exact h6
      | false => exact h
section SVD
variable {P : Nat → List Nat → List Int → (Nat → Nat) → Heap → Prop} {D : va_G} {kd : List SvK} {κ : Nat → Nat} {H : Heap} {ρ : List Int} {nL : Nat} {ls : Array Slot} {st : List Value} {S : SvS}
theorem sv_fact_ok {e : SvL} {x : Int} (hS : sv_Sat P D kd κ H ρ nL ls st S) (he : sv_ev ρ e = some x) (h0 : 0 ≤ x) : sv_Sat P D kd κ H ρ nL ls st (S.1, S.2.1, S.2.2.1, (0, [], [e]) :: S.2.2.2) := by
  refine ⟨hS.1, hS.2.1, hS.2.2.1, fun f hf => ?_⟩
  rcases List.mem_cons.mp hf with rfl | hf
  · exact ⟨[x], sv_evs_cons.mpr ⟨x, [], he, rfl, rfl⟩, h0⟩
  · exact hS.2.2.2 f hf
theorem sv_asm_ok {e : SvL} {x : Int} (hS : sv_Sat P D kd κ H ρ nL ls st S) (he : sv_ev ρ e = some x) (h0 : 0 ≤ x) : sv_Sat P D kd κ H ρ nL ls st (sv_asm S e) := by
  unfold sv_asm
  split
  · cases h1 : sv_ge0 e.1 with
    | true => exact hS
    | false => exact sv_fact_ok hS he h0
  · rename_i v c hc
    obtain ⟨z, hz, rfl⟩ := sv_ev_iff.mp he
    rw [hc] at hz
    obtain ⟨y, u, g1, g2, rfl⟩ := sv_evT_cons.mp hz
    simp only [sv_evT, Option.some.injEq] at g2
    subst g2
    cases h1 : sv_ieq c 1 with
    | true =>
      have e1 := (sv_ieq_iff _ _).mp h1
      subst e1
      simp only [cond_true]
      exact ⟨sv_upl_ok hS.1 g1 (by show -e.1 ≤ y; omega), hS.2⟩
    | false =>
      simp only [cond_false]
      cases h2 : sv_ieq c (-1) with
      | true =>
        have e1 := (sv_ieq_iff _ _).mp h2
        subst e1
        simp only [cond_true]
        exact ⟨sv_uph_ok hS.1 g1 (by omega), hS.2⟩
      | false =>
        simp only [cond_false]
        exact sv_fact_ok hS he h0
  · exact sv_fact_ok hS he h0
theorem sv_asn_ok {e : SvL} {x : Int} (hS : sv_Sat P D kd κ H ρ nL ls st S) (he : sv_ev ρ e = some x) (h0 : x ≠ 0) : sv_Sat P D kd κ H ρ nL ls st (sv_asn S e) := by
  have up : ∀ hi, sv_ub S.1 e = some hi → sv_ieq hi 0 = true → sv_Sat P D kd κ H ρ nL ls st (sv_asm S (sv_addc (sv_sc (-1) e) (-1))) := fun hi h1 h2 => by
    have e1 := (sv_ieq_iff _ _).mp h2
    have e2 := sv_ub_ok hS.1 he h1
    exact sv_asm_ok hS (sv_ev_addc (sv_ev_sc he)) (by omega)
  unfold sv_asn
  split
  · rename_i lo hl
    cases h1 : sv_ieq lo 0 with
    | true =>
      have e1 := (sv_ieq_iff _ _).mp h1
      have e2 := sv_lb_ok hS.1 he hl
      exact sv_asm_ok hS (sv_ev_addc he) (by omega)
    | false =>
      simp only [cond_false]
      split
      · rename_i hi hu
        cases h2 : sv_ieq hi 0 with
        | true => exact up hi hu h2
        | false => exact hS
      · exact hS
  · split
    · rename_i hi hu
      cases h2 : sv_ieq hi 0 with
      | true => exact up hi hu h2
      | false => exact hS
    · exact hS
theorem sv_cnd_ok {d : SvL} {z : Int} {k : Nat} (hS : sv_Sat P D kd κ H ρ nL ls st S) (he : sv_ev ρ d = some z) (h : sv_holds k z) : sv_Sat P D kd κ H ρ nL ls st (sv_cnd k S d) := by
  unfold sv_holds at h
  unfold sv_cnd
  split
  · have h : z = 0 := h
    exact sv_asm_ok (sv_asm_ok hS he (by omega)) (sv_ev_sc he) (by omega)
  · exact sv_asn_ok hS he h
  · have h : z < 0 := h
    exact sv_asm_ok hS (sv_ev_addc (sv_ev_sc he)) (by omega)
  · exact sv_asm_ok hS he h
  · have h : 0 < z := h
    exact sv_asm_ok hS (sv_ev_addc he) (by omega)
  · have h : z ≤ 0 := by
      split at h <;> first | omega | exact h | contradiction
    exact sv_asm_ok hS (sv_ev_sc he) (by omega)
theorem sv_cnp_ok {d : SvL} {z s : Int} {k : Nat} (hS : sv_Sat P D kd κ H ρ nL ls st S) (he : sv_ev ρ d = some z) (h : sv_holds k z) (hs : s = 1 ∨ s = -1) (h0 : 0 ≤ s * z) : sv_Sat P D kd κ H ρ nL ls st (sv_cnp s k S d) := by
  unfold sv_cnp
  cases hq : Nat.beq k 1 with
  | false => exact sv_cnd_ok hS he h
  | true =>
    have e := Nat.eq_of_beq_eq_true hq
    subst e
    have h : z ≠ 0 := h
    refine sv_asm_ok hS (sv_ev_addc (sv_ev_sc he)) ?_
    rcases hs with rfl | rfl <;> omega
theorem sv_neg_ok {k : Nat} {z : Int} (h : ¬ sv_holds k z) (hk : k < 6) : sv_holds (sv_neg k) z := by
  have h6 : k = 0 ∨ k = 1 ∨ k = 2 ∨ k = 3 ∨ k = 4 ∨ k = 5 := by omega
  rcases h6 with rfl | rfl | rfl | rfl | rfl | rfl <;> simp only [sv_holds, sv_neg] at h ⊢ <;> omega
end SVD
theorem sv_ck_lt (cd : Jvm.ClassFile.Cond) : sv_ck cd < 6 := by cases cd <;> decide
theorem sv_i0 : (0 : Int32).toInt = 0 := by decide
theorem sv_hc (cd : Jvm.ClassFile.Cond) (x y : Int32) : sv_holds (sv_ck cd) (x.toInt - y.toInt) ↔ (match cd with | .eq => x = y | .ne => ¬ x = y | .lt => x < y | .ge => y ≤ x | .gt => y < x | .le => x ≤ y) := by
  cases cd
  · show x.toInt - y.toInt = 0 ↔ x = y
    rw [← Int32.toInt_inj]
    omega
  · show x.toInt - y.toInt ≠ 0 ↔ ¬ x = y
    rw [← Int32.toInt_inj]
    omega
  · show x.toInt - y.toInt < 0 ↔ x < y
    rw [Int32.lt_iff_toInt_lt]
    omega
  · show 0 ≤ x.toInt - y.toInt ↔ y ≤ x
    rw [Int32.le_iff_toInt_le]
    omega
  · show 0 < x.toInt - y.toInt ↔ y < x
    rw [Int32.lt_iff_toInt_lt]
    omega
  · show x.toInt - y.toInt ≤ 0 ↔ x ≤ y
    rw [Int32.le_iff_toInt_le]
    omega
theorem sv_hc0 (cd : Jvm.ClassFile.Cond) (x : Int32) : sv_holds (sv_ck cd) x.toInt ↔ (match cd with | .eq => x = 0 | .ne => ¬ x = 0 | .lt => x < 0 | .ge => 0 ≤ x | .gt => 0 < x | .le => x ≤ 0) := by
  have h := sv_hc cd x 0
  rw [sv_i0, Int.sub_zero] at h
  exact h
section SVE
variable {p : Program} {l : Launch} {e : Env} {R : Room} {s : State} {m : MethodId} {args : Array Value} {below : List Frame} {meth : Method} {c : Code} {Q : State → Prop}
variable {H : Heap} {locs : List Loc} {cells slots : Nat} {ls : Array Slot} {rest : List Value} {cc : ByteArray} {pc tgt : Nat}
theorem sv_ifrow (hx : p.tables.exec = Jvm.exec) (hb : c.code = cc) {cd : Jvm.ClassFile.Cond} {o : Int} {x : Int32} (hd : decode cc pc = .ok (.ifCond cd o, 3)) (ht : (pc : Int) + o = (tgt : Int))
    (kt : sv_holds (sv_ck cd) x.toInt → W p l e R s m args below meth c H locs cells slots Q (F0 m tgt ls rest)) (kf : ¬ sv_holds (sv_ck cd) x.toInt → W p l e R s m args below meth c H locs cells slots Q (F0 m (pc + 3) ls rest)) : W p l e R s m args below meth c H locs cells slots Q (F0 m pc ls (.int x :: rest)) := by
  have hc := sv_hc0 cd x
  cases cd
  · exact lv_if_eq hx hb hd ht (fun h => kt (hc.mpr h)) (fun h => kf (fun q => h (hc.mp q)))
  · exact lv_if_ne hx hb hd ht (fun h => kt (hc.mpr h)) (fun h => kf (fun q => absurd h (by first | exact hc.mp q | exact fun r => r (hc.mp q))))
  · exact lv_if_lt hx hb hd ht (fun h => kt (hc.mpr h)) (fun h => kf (fun q => h (hc.mp q)))
  · exact lv_if_ge hx hb hd ht (fun h => kt (hc.mpr h)) (fun h => kf (fun q => h (hc.mp q)))
  · exact lv_if_gt hx hb hd ht (fun h => kt (hc.mpr h)) (fun h => kf (fun q => h (hc.mp q)))
  · exact lv_if_le hx hb hd ht (fun h => kt (hc.mpr h)) (fun h => kf (fun q => h (hc.mp q)))
theorem sv_icrow (hx : p.tables.exec = Jvm.exec) (hb : c.code = cc) {cd : Jvm.ClassFile.Cond} {o : Int} {x y : Int32} (hd : decode cc pc = .ok (.if_icmp cd o, 3)) (ht : (pc : Int) + o = (tgt : Int))
    (kt : sv_holds (sv_ck cd) (x.toInt - y.toInt) → W p l e R s m args below meth c H locs cells slots Q (F0 m tgt ls rest)) (kf : ¬ sv_holds (sv_ck cd) (x.toInt - y.toInt) → W p l e R s m args below meth c H locs cells slots Q (F0 m (pc + 3) ls rest)) : W p l e R s m args below meth c H locs cells slots Q (F0 m pc ls (.int y :: .int x :: rest)) := by
  have hc := sv_hc cd x y
  cases cd
  · exact lv_icmp_eq hx hb hd ht (fun h => kt (hc.mpr h)) (fun h => kf (fun q => h (hc.mp q)))
  · exact lv_icmp_ne hx hb hd ht (fun h => kt (hc.mpr h)) (fun h => kf (fun q => absurd h (by first | exact hc.mp q | exact fun r => r (hc.mp q))))
  · exact lv_icmp_lt hx hb hd ht (fun h => kt (hc.mpr h)) (fun h => kf (fun q => h (hc.mp q)))
  · exact lv_icmp_ge hx hb hd ht (fun h => kt (hc.mpr h)) (fun h => kf (fun q => h (hc.mp q)))
  · exact lv_icmp_gt hx hb hd ht (fun h => kt (hc.mpr h)) (fun h => kf (fun q => h (hc.mp q)))
  · exact lv_icmp_le hx hb hd ht (fun h => kt (hc.mpr h)) (fun h => kf (fun q => h (hc.mp q)))
end SVE
theorem sv_lgc (x y : Int64) : (lg_cmp x y).toInt = if y.toInt < x.toInt then 1 else if x.toInt = y.toInt then 0 else -1 := by
  unfold lg_cmp
  simp only [gt_iff_lt, Int64.lt_iff_toInt_lt, ← Int64.toInt_inj]
  split
  · rfl
  · split <;> rfl
theorem sv_lgh (cd : Jvm.ClassFile.Cond) (x y : Int64) : sv_holds (sv_ck cd) (lg_cmp x y).toInt ↔ sv_holds (sv_ck cd) (x.toInt - y.toInt) := by
  rw [sv_lgc]
  have key : ∀ z : Int, (if y.toInt < x.toInt then (1 : Int) else if x.toInt = y.toInt then 0 else -1) = z → ((z = 0 ↔ x.toInt - y.toInt = 0) ∧ (z < 0 ↔ x.toInt - y.toInt < 0) ∧ (0 < z ↔ 0 < x.toInt - y.toInt)) := by
    intro z hz
    split at hz
    · omega
    · split at hz <;> omega
  obtain ⟨h1, h2, h3⟩ := key _ rfl
  generalize (if y.toInt < x.toInt then (1 : Int) else if x.toInt = y.toInt then 0 else -1) = z at h1 h2 h3 ⊢
  cases cd <;> simp only [sv_ck, sv_holds] <;> omega
section SVA2
variable {p : Program} {l : Launch} {e : Env} {R : Room} {s : State} {m : MethodId} {args : Array Value} {below : List Frame} {meth : Method} {c : Code} {Q : State → Prop}
variable {P : Nat → List Nat → List Int → (Nat → Nat) → Heap → Prop} {D : va_G} {AC : Nat → ClassId} {kd : List SvK} {B0 : Nat} {κ0 : Nat → Nat} {mF mA : List Nat} {Px : List Int → Prop} {nL : Nat} {cc : ByteArray} {pc n : Nat} {w w' : List Nat} {S : SvS} {r : List (SvS × Nat)}
/-- two ways, by a condition on the operands -/
theorem sv_brs_ok {rest : List SvA} {d : SvL} {cd : Jvm.ClassFile.Cond} {o : Int} {pc0 : Nat} (h : sv_brs S rest d (sv_ck cd) o pc w = some (r, w')) (hk : ∀ q ∈ r, sv_Good p l e R s m args below meth c Q P D AC kd B0 κ0 mF mA Px nL q.1 q.2)
    (hr : ∀ (κ : Nat → Nat) (H : Heap) (locs : List Loc) (cells slots : Nat) (ρ : List Int) (ls : Array Slot) (st : List Value) (tgt : Nat), sv_StOk ρ S.2.2.1 st → (pc : Int) + o = (tgt : Int) → ∃ (z : Int) (st' : List Value), sv_StOk ρ rest st' ∧ sv_ev ρ d = some z ∧
      ((sv_holds (sv_ck cd) z → W p l e R s m args below meth c H locs cells slots Q (F0 m tgt ls st')) → (¬ sv_holds (sv_ck cd) z → W p l e R s m args below meth c H locs cells slots Q (F0 m (pc + 3) ls st')) → W p l e R s m args below meth c H locs cells slots Q (F0 m pc0 ls st))) : sv_Good p l e R s m args below meth c Q P D AC kd B0 κ0 mF mA Px nL S pc0 := by
  unfold sv_brs at h
  split at h
  · cases h
  rename_i md w1
  cases hq : sv_ge0 (Int.add (Int.ofNat pc) o) with
  | false => simp only [hq, cond_false] at h; cases h
  | true =>
    simp only [hq, cond_true] at h
    rw [sv_ge0_iff] at hq
    intro κ H locs ρ ls st hI hP hS
    obtain ⟨z, st', h1, h2, h3⟩ := hr κ H locs _ _ ρ ls st (Int.add (Int.ofNat pc) o).toNat hS.2.2.1 (Int.toNat_of_nonneg hq).symm
    have hS' := sv_pop_ok hS h1
    cases hm : Nat.beq md 0 with
    | true =>
      simp only [hm, cond_true, Option.some.injEq, Prod.mk.injEq] at h
      obtain ⟨rfl, -⟩ := h
      exact h3 (fun g => hk _ List.mem_cons_self κ H locs ρ ls st' hI hP (sv_cnd_ok hS' h2 g)) (fun g => hk _ (List.mem_cons_of_mem _ List.mem_cons_self) κ H locs ρ ls st' hI hP (sv_cnd_ok hS' h2 (sv_neg_ok g (sv_ck_lt cd))))
    | false =>
      simp only [hm, cond_false] at h
      split at h
      · rename_i c0 w2 hc0
        have hs : (bif Nat.beq md 1 then (1 : Int) else -1) = 1 ∨ (bif Nat.beq md 1 then (1 : Int) else -1) = -1 := by
          cases Nat.beq md 1 with
          | true => exact Or.inl rfl
          | false => exact Or.inr rfl
        generalize (bif Nat.beq md 1 then (1 : Int) else -1) = sg at h hs
        cases hp : sv_prove S.1 S.2.2.2 c0 (sv_sc sg d) with
        | false => simp only [hp, cond_false] at h; cases h
        | true =>
          simp only [hp, cond_true, Option.some.injEq, Prod.mk.injEq] at h
          obtain ⟨rfl, -⟩ := h
          have h0 := sv_prove_ok hS.1 hS.2.2.2 (sv_ev_sc (k := sg) h2) hp
          exact h3 (fun g => hk _ List.mem_cons_self κ H locs ρ ls st' hI hP (sv_cnp_ok hS' h2 g hs h0)) (fun g => hk _ (List.mem_cons_of_mem _ List.mem_cons_self) κ H locs ρ ls st' hI hP (sv_cnp_ok hS' h2 (sv_neg_ok g (sv_ck_lt cd)) hs h0))
      · cases h
theorem sv_tab_ok {rest : List SvA} {a : SvL} : ∀ {offs : List Int} {k : Int} {t : List (SvS × Nat)}, sv_tab S rest a pc k offs = some t → ∀ (j : Nat) (o : Int), offs[j]? = some o → 0 ≤ (pc : Int) + o ∧ (sv_cnd 0 (S.1, S.2.1, rest, S.2.2.2) (sv_addc a (Int.neg (k + j))), ((pc : Int) + o).toNat) ∈ t
  | [], k, t, _, j, o, ho => by simp at ho
  | o1 :: offs, k, t, h, j, o, ho => by
    simp only [sv_tab] at h
    split at h
    · rename_i t1 h1
      cases hq : sv_ge0 (Int.add (Int.ofNat pc) o1) with
      | false => simp only [hq, cond_false] at h; cases h
      | true =>
        simp only [hq, cond_true, Option.some.injEq] at h
        subst h
        cases j with
        | zero =>
          simp only [List.getElem?_cons_zero, Option.some.injEq] at ho
          subst ho
          refine ⟨(sv_ge0_iff _).mp hq, ?_⟩
          have e : k + ((0 : Nat) : Int) = k := by omega
          rw [e]
          exact List.mem_cons_self
        | succ j =>
          rw [List.getElem?_cons_succ] at ho
          obtain ⟨g1, g2⟩ := sv_tab_ok h1 j o ho
          refine ⟨g1, ?_⟩
          have e : k + ((j + 1 : Nat) : Int) = Int.add k 1 + (j : Int) := by
            show _ = k + 1 + (j : Int)
            omega
          rw [e]
          exact List.mem_cons_of_mem _ g2
    · simp at h
theorem sv_C_ok (hx : p.tables.exec = Jvm.exec) (hb : c.code = cc) {i : Instr} (hd : decode cc pc = .ok (i, n)) (h : sv_C cc S pc i n w = some (r, w')) (hk : ∀ q ∈ r, sv_Good p l e R s m args below meth c Q P D AC kd B0 κ0 mF mA Px nL q.1 q.2) : sv_Good p l e R s m args below meth c Q P D AC kd B0 κ0 mF mA Px nL S pc := by
  unfold sv_C at h
  split at h
  · rename_i cd o
    split at h
    · rename_i a rest hst
      cases hq : Nat.beq n 3 with
      | false => simp only [hq, cond_false] at h; cases h
      | true =>
        simp only [hq, cond_true] at h
        have hn := Nat.eq_of_beq_eq_true hq
        subst hn
        refine sv_brs_ok h hk (fun κ H locs cells slots ρ ls st tgt hs ht => ?_)
        rw [hst] at hs
        obtain ⟨v1, vs1, rfl, q1, hs1⟩ := sv_StOk_cons hs
        obtain ⟨x, rfl, p1⟩ := sv_VOk1 q1
        exact ⟨x.toInt, vs1, hs1, p1, fun kt kf => sv_ifrow hx hb hd ht kt kf⟩
    · simp at h
  · rename_i cd o
    split at h
    · rename_i b a rest hst
      cases hq : Nat.beq n 3 with
      | false => simp only [hq, cond_false] at h; cases h
      | true =>
        simp only [hq, cond_true] at h
        have hn := Nat.eq_of_beq_eq_true hq
        subst hn
        refine sv_brs_ok h hk (fun κ H locs cells slots ρ ls st tgt hs ht => ?_)
        rw [hst] at hs
        obtain ⟨v1, vs1, rfl, q1, hs1⟩ := sv_StOk_cons hs
        obtain ⟨v2, vs2, rfl, q2, hs2⟩ := sv_StOk_cons hs1
        obtain ⟨y, rfl, p1⟩ := sv_VOk1 q1
        obtain ⟨x, rfl, p2⟩ := sv_VOk1 q2
        exact ⟨x.toInt - y.toInt, vs2, hs2, sv_ev_sub p2 p1, fun kt kf => sv_icrow hx hb hd ht kt kf⟩
    · simp at h
  · split at h
    · rename_i b a rest hst
      cases hq : Nat.beq n 1 with
      | false => simp only [hq, cond_false] at h; cases h
      | true =>
        simp only [hq, cond_true] at h
        have hn := Nat.eq_of_beq_eq_true hq
        subst hn
        split at h
        · rename_i cd o hd2
          refine sv_brs_ok h hk (fun κ H locs cells slots ρ ls st tgt hs ht => ?_)
          rw [hst] at hs
          obtain ⟨v1, vs1, rfl, q1, hs1⟩ := sv_StOk_cons hs
          obtain ⟨v2, vs2, rfl, q2, hs2⟩ := sv_StOk_cons hs1
          obtain ⟨y, rfl, p1⟩ := sv_VOk2 q1
          obtain ⟨x, rfl, p2⟩ := sv_VOk2 q2
          refine ⟨x.toInt - y.toInt, vs2, hs2, sv_ev_sub p2 p1, fun kt kf => W.lcmp hx hb hd (sv_ifrow hx hb hd2 ht (fun g => kt ((sv_lgh cd x y).mp g)) (fun g => kf (fun q => g ((sv_lgh cd x y).mpr q))))⟩
        · simp at h
    · simp at h
  · rename_i o
    split at h
    · rename_i a rest hst
      cases hq : (Nat.beq n 3 && sv_ge0 (Int.add (Int.ofNat pc) o)) with
      | false => simp only [hq, cond_false] at h; cases h
      | true =>
        simp only [hq, cond_true, Option.some.injEq, Prod.mk.injEq] at h
        obtain ⟨rfl, -⟩ := h
        rw [Bool.and_eq_true, sv_ge0_iff] at hq
        have hn := Nat.eq_of_beq_eq_true hq.1
        subst hn
        intro κ H locs ρ ls st hI hP hS
        have hs := hS.2.2.1
        rw [hst] at hs
        obtain ⟨v1, vs1, rfl, q1, hs1⟩ := sv_StOk_cons hs
        have hS' := sv_pop_ok hS hs1
        rcases sv_VOk3 q1 with ⟨rfl, p1⟩ | ⟨x, rfl, p1⟩
        · exact lv_ifnullN hx hb hd (tgt := (Int.add (Int.ofNat pc) o).toNat) (Int.toNat_of_nonneg hq.2).symm (hk _ List.mem_cons_self κ H locs ρ ls vs1 hI hP (sv_cnd_ok hS' (sv_ev_addc p1) rfl))
        · exact lv_ifnull hx hb hd (hk _ (List.mem_cons_of_mem _ List.mem_cons_self) κ H locs ρ ls vs1 hI hP (sv_asm_ok hS' p1 (Int.natCast_nonneg x)))
    · simp at h
  · rename_i o
    split at h
    · rename_i a rest hst
      cases hq : (Nat.beq n 3 && sv_ge0 (Int.add (Int.ofNat pc) o)) with
      | false => simp only [hq, cond_false] at h; cases h
      | true =>
        simp only [hq, cond_true, Option.some.injEq, Prod.mk.injEq] at h
        obtain ⟨rfl, -⟩ := h
        rw [Bool.and_eq_true, sv_ge0_iff] at hq
        have hn := Nat.eq_of_beq_eq_true hq.1
        subst hn
        intro κ H locs ρ ls st hI hP hS
        have hs := hS.2.2.1
        rw [hst] at hs
        obtain ⟨v1, vs1, rfl, q1, hs1⟩ := sv_StOk_cons hs
        have hS' := sv_pop_ok hS hs1
        rcases sv_VOk3 q1 with ⟨rfl, p1⟩ | ⟨x, rfl, p1⟩
        · exact lv_ifnonnullN hx hb hd (hk _ (List.mem_cons_of_mem _ List.mem_cons_self) κ H locs ρ ls vs1 hI hP (sv_cnd_ok hS' (sv_ev_addc p1) rfl))
        · exact lv_ifnonnull hx hb hd (tgt := (Int.add (Int.ofNat pc) o).toNat) (Int.toNat_of_nonneg hq.2).symm (hk _ List.mem_cons_self κ H locs ρ ls vs1 hI hP (sv_asm_ok hS' p1 (Int.natCast_nonneg x)))
    · simp at h
  · rename_i df lo hi offs
    split at h
    · rename_i a rest hst
      split at h
      · rename_i t ht
        cases hq : (sv_ge0 (Int.add (Int.ofNat pc) df) && sv_ieq (Int.add lo (Int.ofNat offs.toList.length)) (Int.add hi 1)) with
        | false => simp only [hq, cond_false] at h; cases h
        | true =>
          simp only [hq, cond_true, Option.some.injEq, Prod.mk.injEq] at h
          obtain ⟨rfl, -⟩ := h
          rw [Bool.and_eq_true, sv_ge0_iff, sv_ieq_iff] at hq
          intro κ H locs ρ ls st hI hP hS
          have hs := hS.2.2.1
          rw [hst] at hs
          obtain ⟨v1, vs1, rfl, q1, hs1⟩ := sv_StOk_cons hs
          obtain ⟨x, rfl, p1⟩ := sv_VOk1 q1
          have hS' := sv_pop_ok hS hs1
          have hlen : lo + (offs.toList.length : Int) = hi + 1 := hq.2
          by_cases h1 : x.toInt < lo
          · refine lv_tableOut hx hb hd (Or.inl h1) (tgt := (Int.add (Int.ofNat pc) df).toNat) (Int.toNat_of_nonneg hq.1).symm (hk _ List.mem_cons_self κ H locs ρ ls vs1 hI hP (sv_asm_ok hS' (sv_ev_addc (sv_ev_sc p1)) ?_))
            show 0 ≤ -1 * x.toInt + (lo - 1)
            omega
          · by_cases h2 : hi < x.toInt
            · refine lv_tableOut hx hb hd (Or.inr h2) (tgt := (Int.add (Int.ofNat pc) df).toNat) (Int.toNat_of_nonneg hq.1).symm (hk _ (List.mem_cons_of_mem _ List.mem_cons_self) κ H locs ρ ls vs1 hI hP (sv_asm_ok hS' (sv_ev_addc p1) ?_))
              show 0 ≤ x.toInt + (-1 - hi)
              omega
            · have hj : (x.toInt - lo).toNat < offs.toList.length := by omega
              obtain ⟨g1, g2⟩ := sv_tab_ok ht (x.toInt - lo).toNat _ (List.getElem?_eq_getElem hj)
              have e1 : lo + (((x.toInt - lo).toNat : Nat) : Int) = x.toInt := by omega
              rw [e1] at g2
              refine lv_tableIn hx hb hd h1 h2 (off := offs.toList[(x.toInt - lo).toNat]) ?_ (Int.toNat_of_nonneg g1).symm (hk _ (List.mem_cons_of_mem _ (List.mem_cons_of_mem _ g2)) κ H locs ρ ls vs1 hI hP (sv_cnd_ok hS' (sv_ev_addc p1) ?_))
              · rw [← Array.getElem?_toList]
                exact List.getElem?_eq_getElem hj
              · show x.toInt + -x.toInt = 0
                omega
      · simp at h
    · simp at h
  · simp at h
end SVA2
end
