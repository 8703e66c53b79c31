/-! A small checker of its own: linear forms over ghost numbers, bounds, facts. All is structural, so that the kernel counts it. -/
abbrev SvL : Type := Int × List (Nat × Int)
abbrev SvA : Type := Nat × SvL
abbrev SvF : Type := Nat × List Nat × List SvL
abbrev SvB : Type := Int × Option Int
def sv_nth {α : Type} : List α → Nat → Option α
  | [], _ => none
  | a :: _, 0 => some a
  | _ :: t, n + 1 => sv_nth t n
def sv_ge0 : Int → Bool
  | .ofNat _ => true
  | .negSucc _ => false
def sv_iz : Int → Bool
  | .ofNat n => Nat.beq n 0
  | .negSucc _ => false
def sv_le (a b : Int) : Bool := sv_ge0 (Int.sub b a)
def sv_evT (ρ : List Int) : List (Nat × Int) → Option Int
  | [] => some 0
  | (v, c) :: t => match sv_nth ρ v with
    | some x => match sv_evT ρ t with
      | some y => some (c * x + y)
      | none => none
    | none => none
def sv_ev (ρ : List Int) (e : SvL) : Option Int := match sv_evT ρ e.2 with
  | some y => some (e.1 + y)
  | none => none
def sv_evs (ρ : List Int) : List SvL → Option (List Int)
  | [] => some []
  | e :: t => match sv_ev ρ e with
    | some x => match sv_evs ρ t with
      | some xs => some (x :: xs)
      | none => none
    | none => none
def sv_ins (v : Nat) (c : Int) : List (Nat × Int) → List (Nat × Int)
  | [] => bif sv_iz c then [] else [(v, c)]
  | (w, d) :: t => bif Nat.beq v w then (bif sv_iz (Int.add c d) then t else (w, Int.add c d) :: t) else bif Nat.blt v w then (bif sv_iz c then (w, d) :: t else (v, c) :: (w, d) :: t) else (w, d) :: sv_ins v c t
def sv_addT : List (Nat × Int) → List (Nat × Int) → List (Nat × Int)
  | [], b => b
  | (v, c) :: t, b => sv_addT t (sv_ins v c b)
def sv_add (a b : SvL) : SvL := (Int.add a.1 b.1, sv_addT a.2 b.2)
def sv_scT (k : Int) : List (Nat × Int) → List (Nat × Int)
  | [] => []
  | (v, c) :: t => (v, Int.mul k c) :: sv_scT k t
def sv_sc (k : Int) (a : SvL) : SvL := bif sv_iz k then (0, []) else (Int.mul k a.1, sv_scT k a.2)
def sv_sub (a b : SvL) : SvL := sv_add (sv_sc (-1) b) a
def sv_addc (a : SvL) (k : Int) : SvL := (Int.add a.1 k, a.2)
def sv_k (k : Int) : SvL := (k, [])
def sv_v (v : Nat) : SvL := (0, [(v, 1)])
/-- a form over other variables: each variable stands for a form -/
def sv_suT (σ : List SvL) : List (Nat × Int) → Option SvL
  | [] => some (0, [])
  | (v, c) :: t => match sv_nth σ v with
    | some e => match sv_suT σ t with
      | some r => some (sv_add (sv_sc c e) r)
      | none => none
    | none => none
def sv_su (σ : List SvL) (e : SvL) : Option SvL := match sv_suT σ e.2 with
  | some r => some (sv_addc r e.1)
  | none => none
def sv_sus (σ : List SvL) : List SvL → Option (List SvL)
  | [] => some []
  | e :: t => match sv_su σ e with
    | some x => match sv_sus σ t with
      | some xs => some (x :: xs)
      | none => none
    | none => none
/-- the least value by the bounds -/
def sv_lbT (b : List SvB) : List (Nat × Int) → Option Int
  | [] => some 0
  | (v, c) :: t => match sv_nth b v with
    | some q => match sv_lbT b t with
      | some y => bif sv_ge0 c then some (Int.add (Int.mul c q.1) y) else match q.2 with
        | some h => some (Int.add (Int.mul c h) y)
        | none => none
      | none => none
    | none => none
def sv_lb (b : List SvB) (e : SvL) : Option Int := match sv_lbT b e.2 with
  | some y => some (Int.add e.1 y)
  | none => none
def sv_ub (b : List SvB) (e : SvL) : Option Int := match sv_lb b (sv_sc (-1) e) with
  | some y => some (Int.neg y)
  | none => none
/-- a certificate: facts (places, factors) taken from the goal -/
def sv_cut (fs : List SvF) : List (Nat × Nat) → SvL → Option SvL
  | [], g => some g
  | (i, k) :: t, g => match sv_nth fs i with
    | some (0, _, [φ]) => sv_cut fs t (sv_add (sv_sc (Int.neg (Int.ofNat k)) φ) g)
    | _ => none
def sv_prove (b : List SvB) (fs : List SvF) (cert : List (Nat × Nat)) (g : SvL) : Bool := match sv_cut fs cert g with
  | some r => match sv_lb b r with
    | some l => sv_ge0 l
    | none => false
  | none => false
/-- digits of a number: below 512 as they are, else 512 less and 512 times what follows -/
def sv_num : Nat → Nat → Nat × Nat
  | 0, w => (0, w)
  | f + 1, w => bif Nat.blt (Nat.mod w 1024) 512 then (Nat.mod w 1024, Nat.div w 1024) else match sv_num f (Nat.div w 1024) with
    | (a, w') => (Nat.add (Nat.sub (Nat.mod w 1024) 512) (Nat.mul 512 a), w')
def sv_dig : Nat → Nat → List Nat
  | 0, _ => []
  | f + 1, w => match sv_num 12 w with
    | (a, w') => a :: sv_dig f w'
def sv_int (n : Nat) : Int := bif Nat.beq (Nat.mod n 2) 0 then Int.ofNat (Nat.div n 2) else Int.negSucc (Nat.div n 2)
def sv_rpairs : Nat → List Nat → Option (List (Nat × Nat) × List Nat)
  | 0, w => some ([], w)
  | n + 1, a :: b :: w => match sv_rpairs n w with
    | some (l, w') => some ((a, b) :: l, w')
    | none => none
  | _ + 1, _ => none
def sv_rcert : List Nat → Option (List (Nat × Nat) × List Nat)
  | n :: w => sv_rpairs n w
  | [] => none
def sv_rterms : Nat → List Nat → Option (List (Nat × Int) × List Nat)
  | 0, w => some ([], w)
  | n + 1, a :: b :: w => match sv_rterms n w with
    | some (l, w') => some ((a, sv_int b) :: l, w')
    | none => none
  | _ + 1, _ => none
def sv_rlin : List Nat → Option (SvL × List Nat)
  | k :: n :: w => match sv_rterms n w with
    | some (l, w') => some ((sv_int k, l), w')
    | none => none
  | _ => none
def sv_rlins : Nat → List Nat → Option (List SvL × List Nat)
  | 0, w => some ([], w)
  | n + 1, w => match sv_rlin w with
    | some (e, w') => match sv_rlins n w' with
      | some (l, w2) => some (e :: l, w2)
      | none => none
    | none => none
-- equality of data
def sv_ieq : Int → Int → Bool
  | .ofNat a, .ofNat b => Nat.beq a b
  | .negSucc a, .negSucc b => Nat.beq a b
  | _, _ => false
def sv_teq : List (Nat × Int) → List (Nat × Int) → Bool
  | [], [] => true
  | (v, c) :: t, (w, d) :: u => Nat.beq v w && (sv_ieq c d && sv_teq t u)
  | _, _ => false
def sv_leq (a b : SvL) : Bool := sv_ieq a.1 b.1 && sv_teq a.2 b.2
def sv_lseq : List SvL → List SvL → Bool
  | [], [] => true
  | a :: t, b :: u => sv_leq a b && sv_lseq t u
  | _, _ => false
def sv_nseq : List Nat → List Nat → Bool
  | [], [] => true
  | a :: t, b :: u => Nat.beq a b && sv_nseq t u
  | _, _ => false
def sv_feq (f g : SvF) : Bool := Nat.beq f.1 g.1 && (sv_nseq f.2.1 g.2.1 && sv_lseq f.2.2 g.2.2)
def sv_fin (f : SvF) : List SvF → Bool
  | [] => false
  | g :: t => sv_feq f g || sv_fin f t
def sv_nin (n : Nat) : List Nat → Bool
  | [] => false
  | m :: t => Nat.beq n m || sv_nin n t
-- ===== what they mean =====
theorem sv_nth_eq {α : Type} : ∀ (l : List α) (n : Nat), sv_nth l n = l[n]?
  | [], n => by simp [sv_nth]
  | a :: t, 0 => by simp [sv_nth]
  | a :: t, n + 1 => by simp [sv_nth, sv_nth_eq t n]
theorem sv_nth_app {α : Type} {l m : List α} {n : Nat} {a : α} (h : sv_nth l n = some a) : sv_nth (l ++ m) n = some a := by
  rw [sv_nth_eq] at h ⊢
  rw [List.getElem?_append_left (List.getElem?_eq_some_iff.mp h).1]
  exact h
theorem sv_ge0_iff (x : Int) : sv_ge0 x = true ↔ 0 ≤ x := by
  cases x with
  | ofNat n => simp [sv_ge0]
  | negSucc n => simp [sv_ge0]
theorem sv_iz_iff (x : Int) : sv_iz x = true ↔ x = 0 := by
  cases x with
  | ofNat n => simp [sv_iz]
  | negSucc n => simp [sv_iz]
theorem sv_le_iff (a b : Int) : sv_le a b = true ↔ a ≤ b := by
  unfold sv_le
  rw [sv_ge0_iff]
  show 0 ≤ b - a ↔ a ≤ b
  omega
theorem sv_ieq_iff (a b : Int) : sv_ieq a b = true ↔ a = b := by
  cases a <;> cases b <;> simp [sv_ieq] <;> omega
theorem sv_teq_iff : ∀ (a b : List (Nat × Int)), sv_teq a b = true → a = b
  | [], [], _ => rfl
  | [], _ :: _, h => by simp [sv_teq] at h
  | _ :: _, [], h => by simp [sv_teq] at h
  | (v, c) :: t, (w, d) :: u, h => by
    simp only [sv_teq, Bool.and_eq_true] at h
    obtain ⟨h1, h2, h3⟩ := h
    rw [Nat.eq_of_beq_eq_true h1, (sv_ieq_iff c d).mp h2, sv_teq_iff t u h3]
theorem sv_leq_eq {a b : SvL} (h : sv_leq a b = true) : a = b := by
  simp only [sv_leq, Bool.and_eq_true] at h
  obtain ⟨a1, a2⟩ := a
  obtain ⟨b1, b2⟩ := b
  rw [(sv_ieq_iff a1 b1).mp h.1, sv_teq_iff a2 b2 h.2]
theorem sv_lseq_eq : ∀ (a b : List SvL), sv_lseq a b = true → a = b
  | [], [], _ => rfl
  | [], _ :: _, h => by simp [sv_lseq] at h
  | _ :: _, [], h => by simp [sv_lseq] at h
  | x :: t, y :: u, h => by
    simp only [sv_lseq, Bool.and_eq_true] at h
    rw [sv_leq_eq h.1, sv_lseq_eq t u h.2]
theorem sv_nseq_eq : ∀ (a b : List Nat), sv_nseq a b = true → a = b
  | [], [], _ => rfl
  | [], _ :: _, h => by simp [sv_nseq] at h
  | _ :: _, [], h => by simp [sv_nseq] at h
  | x :: t, y :: u, h => by
    simp only [sv_nseq, Bool.and_eq_true] at h
    rw [Nat.eq_of_beq_eq_true h.1, sv_nseq_eq t u h.2]
theorem sv_feq_eq {f g : SvF} (h : sv_feq f g = true) : f = g := by
  simp only [sv_feq, Bool.and_eq_true] at h
  obtain ⟨a, b, c⟩ := f
  obtain ⟨a', b', c'⟩ := g
  obtain ⟨h1, h2, h3⟩ := h
  have e1 : a = a' := Nat.eq_of_beq_eq_true h1
  have e2 : b = b' := sv_nseq_eq b b' h2
  have e3 : c = c' := sv_lseq_eq c c' h3
  rw [e1, e2, e3]
theorem sv_fin_mem {f : SvF} : ∀ {l : List SvF}, sv_fin f l = true → f ∈ l
  | [], h => by simp [sv_fin] at h
  | g :: t, h => by
    simp only [sv_fin, Bool.or_eq_true] at h
    rcases h with h | h
    · rw [sv_feq_eq h]; exact List.mem_cons_self
    · exact List.mem_cons_of_mem _ (sv_fin_mem h)
theorem sv_nin_mem {n : Nat} : ∀ {l : List Nat}, sv_nin n l = true → n ∈ l
  | [], h => by simp [sv_nin] at h
  | m :: t, h => by
    simp only [sv_nin, Bool.or_eq_true] at h
    rcases h with h | h
    · rw [Nat.eq_of_beq_eq_true h]; exact List.mem_cons_self
    · exact List.mem_cons_of_mem _ (sv_nin_mem h)
theorem sv_nin_not {n : Nat} : ∀ {l : List Nat}, sv_nin n l = false → n ∉ l
  | [], _ => List.not_mem_nil
  | m :: t, h => by
    simp only [sv_nin, Bool.or_eq_false_iff] at h
    intro hm
    rcases List.mem_cons.mp hm with e | e
    · subst e
      rw [Nat.beq_refl] at h
      exact absurd h.1 (by decide)
    · exact sv_nin_not h.2 e
-- evaluation
theorem sv_evT_app {ρ τ : List Int} : ∀ {t : List (Nat × Int)} {y : Int}, sv_evT ρ t = some y → sv_evT (ρ ++ τ) t = some y
  | [], y, h => h
  | (v, c) :: t, y, h => by
    simp only [sv_evT] at h ⊢
    cases hx : sv_nth ρ v with
    | none => rw [hx] at h; simp at h
    | some x =>
      rw [hx] at h
      rw [sv_nth_app hx]
      cases hy : sv_evT ρ t with
      | none => rw [hy] at h; simp at h
      | some z =>
        rw [hy] at h
        rw [sv_evT_app hy]
        exact h
theorem sv_ev_app {ρ τ : List Int} {e : SvL} {x : Int} (h : sv_ev ρ e = some x) : sv_ev (ρ ++ τ) e = some x := by
  unfold sv_ev at h ⊢
  cases hy : sv_evT ρ e.2 with
  | none => rw [hy] at h; simp at h
  | some z => rw [hy] at h; rw [sv_evT_app hy]; exact h
theorem sv_evs_app {ρ τ : List Int} : ∀ {l : List SvL} {xs : List Int}, sv_evs ρ l = some xs → sv_evs (ρ ++ τ) l = some xs
  | [], xs, h => h
  | e :: t, xs, h => by
    simp only [sv_evs] at h ⊢
    cases hx : sv_ev ρ e with
    | none => rw [hx] at h; simp at h
    | some x =>
      rw [hx] at h
      rw [sv_ev_app hx]
      cases hy : sv_evs ρ t with
      | none => rw [hy] at h; simp at h
      | some z => rw [hy] at h; rw [sv_evs_app hy]; exact h
theorem sv_evT_cons {ρ : List Int} {v : Nat} {c : Int} {t : List (Nat × Int)} {y : Int} : sv_evT ρ ((v, c) :: t) = some y ↔ ∃ x z, sv_nth ρ v = some x ∧ sv_evT ρ t = some z ∧ c * x + z = y := by
  simp only [sv_evT]
  cases hx : sv_nth ρ v with
  | none => simp
  | some x =>
    cases hy : sv_evT ρ t with
    | none => simp
    | some z => simp
theorem sv_ev_iff {ρ : List Int} {e : SvL} {x : Int} : sv_ev ρ e = some x ↔ ∃ z, sv_evT ρ e.2 = some z ∧ e.1 + z = x := by
  unfold sv_ev
  cases hy : sv_evT ρ e.2 with
  | none => simp
  | some z => simp
theorem sv_evs_cons {ρ : List Int} {e : SvL} {t : List SvL} {xs : List Int} : sv_evs ρ (e :: t) = some xs ↔ ∃ x z, sv_ev ρ e = some x ∧ sv_evs ρ t = some z ∧ xs = x :: z := by
  simp only [sv_evs]
  cases hx : sv_ev ρ e with
  | none => simp
  | some x =>
    cases hy : sv_evs ρ t with
    | none => simp
    | some z => simp [eq_comm]
theorem sv_ev_ins {ρ : List Int} {v : Nat} {c x : Int} (hv : sv_nth ρ v = some x) : ∀ {t : List (Nat × Int)} {z : Int}, sv_evT ρ t = some z → sv_evT ρ (sv_ins v c t) = some (c * x + z)
  | [], z, h => by
    simp only [sv_ins]
    cases hz : sv_iz c with
    | true =>
      rw [(sv_iz_iff c).mp hz]
      simp only [sv_evT] at h
      cases h
      simp [sv_evT]
    | false => exact sv_evT_cons.mpr ⟨x, z, hv, h, rfl⟩
  | (w, d) :: t, z, h => by
    obtain ⟨y, u, h1, h2, rfl⟩ := sv_evT_cons.mp h
    simp only [sv_ins]
    cases hb : Nat.beq v w with
    | true =>
      have e := Nat.eq_of_beq_eq_true hb
      subst e
      rw [hv] at h1
      cases h1
      simp only [cond_true]
      cases hz : sv_iz (Int.add c d) with
      | true =>
        have e : c + d = 0 := (sv_iz_iff _).mp hz
        simp only [cond_true]
        rw [h2, ← Int.add_assoc, ← Int.add_mul, e]
        simp
      | false =>
        simp only [cond_false]
        refine sv_evT_cons.mpr ⟨x, u, hv, h2, ?_⟩
        show (c + d) * x + u = _
        rw [Int.add_mul, Int.add_assoc]
    | false =>
      simp only [cond_false]
      cases hl : Nat.blt v w with
      | true =>
        simp only [cond_true]
        cases hz : sv_iz c with
        | true =>
          rw [(sv_iz_iff c).mp hz]
          simp only [cond_true, Int.zero_mul, Int.zero_add]
          exact h
        | false => exact sv_evT_cons.mpr ⟨x, _, hv, h, rfl⟩
      | false =>
        simp only [cond_false]
        refine sv_evT_cons.mpr ⟨y, c * x + u, h1, sv_ev_ins hv h2, ?_⟩
        omega
theorem sv_ev_addT {ρ : List Int} : ∀ {a b : List (Nat × Int)} {x y : Int}, sv_evT ρ a = some x → sv_evT ρ b = some y → sv_evT ρ (sv_addT a b) = some (x + y)
  | [], b, x, y, h1, h2 => by
    simp only [sv_evT] at h1
    cases h1
    rw [Int.zero_add]
    exact h2
  | (v, c) :: t, b, x, y, h1, h2 => by
    obtain ⟨z, u, g1, g2, rfl⟩ := sv_evT_cons.mp h1
    simp only [sv_addT]
    rw [sv_ev_addT g2 (sv_ev_ins g1 h2)]
    congr 1
    omega
theorem sv_ev_add {ρ : List Int} {a b : SvL} {x y : Int} (h1 : sv_ev ρ a = some x) (h2 : sv_ev ρ b = some y) : sv_ev ρ (sv_add a b) = some (x + y) := by
  obtain ⟨z, g1, rfl⟩ := sv_ev_iff.mp h1
  obtain ⟨u, g2, rfl⟩ := sv_ev_iff.mp h2
  refine sv_ev_iff.mpr ⟨z + u, sv_ev_addT g1 g2, ?_⟩
  show a.1 + b.1 + (z + u) = _
  omega
theorem sv_ev_scT {ρ : List Int} {k : Int} : ∀ {a : List (Nat × Int)} {x : Int}, sv_evT ρ a = some x → sv_evT ρ (sv_scT k a) = some (k * x)
  | [], x, h => by
    simp only [sv_evT] at h
    cases h
    simp [sv_scT, sv_evT]
  | (v, c) :: t, x, h => by
    obtain ⟨z, u, g1, g2, rfl⟩ := sv_evT_cons.mp h
    refine sv_evT_cons.mpr ⟨z, k * u, g1, sv_ev_scT g2, ?_⟩
    show k * c * z + k * u = k * (c * z + u)
    rw [Int.mul_add, Int.mul_assoc]
theorem sv_ev_sc {ρ : List Int} {k : Int} {a : SvL} {x : Int} (h : sv_ev ρ a = some x) : sv_ev ρ (sv_sc k a) = some (k * x) := by
  unfold sv_sc
  cases hz : sv_iz k with
  | true =>
    rw [(sv_iz_iff k).mp hz]
    simp [sv_ev, sv_evT]
  | false =>
    obtain ⟨z, g1, rfl⟩ := sv_ev_iff.mp h
    refine sv_ev_iff.mpr ⟨k * z, sv_ev_scT g1, ?_⟩
    show k * a.1 + k * z = k * (a.1 + z)
    rw [Int.mul_add]
theorem sv_ev_sub {ρ : List Int} {a b : SvL} {x y : Int} (h1 : sv_ev ρ a = some x) (h2 : sv_ev ρ b = some y) : sv_ev ρ (sv_sub a b) = some (x - y) := by
  unfold sv_sub
  rw [sv_ev_add (sv_ev_sc h2) h1]
  congr 1
  omega
theorem sv_ev_addc {ρ : List Int} {a : SvL} {x k : Int} (h1 : sv_ev ρ a = some x) : sv_ev ρ (sv_addc a k) = some (x + k) := by
  obtain ⟨z, g1, rfl⟩ := sv_ev_iff.mp h1
  refine sv_ev_iff.mpr ⟨z, g1, ?_⟩
  show a.1 + k + z = _
  omega
theorem sv_ev_k (ρ : List Int) (k : Int) : sv_ev ρ (sv_k k) = some k := by simp [sv_ev, sv_k, sv_evT]
theorem sv_ev_v {ρ : List Int} {v : Nat} {x : Int} (h : sv_nth ρ v = some x) : sv_ev ρ (sv_v v) = some x := by
  simp [sv_ev, sv_v, sv_evT, h]
theorem sv_ev_v_inv {ρ : List Int} {v : Nat} {x : Int} (h : sv_ev ρ (sv_v v) = some x) : sv_nth ρ v = some x := by
  cases hx : sv_nth ρ v with
  | none => simp [sv_ev, sv_v, sv_evT, hx] at h
  | some y => simp [sv_ev, sv_v, sv_evT, hx] at h; rw [h]
theorem sv_evs_nth {ρ : List Int} : ∀ {σ : List SvL} {τ : List Int} {v : Nat} {e : SvL}, sv_evs ρ σ = some τ → sv_nth σ v = some e → ∃ x, sv_nth τ v = some x ∧ sv_ev ρ e = some x
  | [], τ, v, e, _, he => by simp [sv_nth] at he
  | a :: l, τ, v, e, hσ, he => by
    obtain ⟨x0, z0, q1, q2, rfl⟩ := sv_evs_cons.mp hσ
    cases v with
    | zero =>
      simp only [sv_nth, Option.some.injEq] at he
      subst he
      exact ⟨x0, rfl, q1⟩
    | succ v =>
      simp only [sv_nth] at he
      have ih := sv_evs_nth q2 he
      exact ih
-- substitution
theorem sv_ev_suT {ρ : List Int} {σ : List SvL} {τ : List Int} (hσ : sv_evs ρ σ = some τ) : ∀ {t : List (Nat × Int)} {r : SvL} {y : Int}, sv_suT σ t = some r → sv_evT τ t = some y → sv_ev ρ r = some y
  | [], r, y, h1, h2 => by
    simp only [sv_suT] at h1
    simp only [sv_evT] at h2
    cases h1
    cases h2
    simp [sv_ev, sv_evT]
  | (v, c) :: t, r, y, h1, h2 => by
    obtain ⟨x, z, g1, g2, rfl⟩ := sv_evT_cons.mp h2
    simp only [sv_suT] at h1
    cases he : sv_nth σ v with
    | none => rw [he] at h1; simp at h1
    | some e =>
      rw [he] at h1
      cases hr : sv_suT σ t with
      | none => rw [hr] at h1; simp at h1
      | some r' =>
        rw [hr] at h1
        simp only [Option.some.injEq] at h1
        subst h1
        obtain ⟨x', hx1, hx⟩ := sv_evs_nth hσ he
        rw [g1] at hx1
        cases hx1
        exact sv_ev_add (sv_ev_sc hx) (sv_ev_suT hσ hr g2)
theorem sv_ev_su {ρ : List Int} {σ : List SvL} {τ : List Int} (hσ : sv_evs ρ σ = some τ) {e r : SvL} {y : Int} (h1 : sv_su σ e = some r) (h2 : sv_ev τ e = some y) : sv_ev ρ r = some y := by
  obtain ⟨z, g1, rfl⟩ := sv_ev_iff.mp h2
  unfold sv_su at h1
  cases hr : sv_suT σ e.2 with
  | none => rw [hr] at h1; simp at h1
  | some r' =>
    rw [hr] at h1
    simp only [Option.some.injEq] at h1
    subst h1
    rw [sv_ev_addc (sv_ev_suT hσ hr g1)]
    congr 1
    omega
theorem sv_evs_len {ρ : List Int} : ∀ {σ : List SvL} {τ : List Int}, sv_evs ρ σ = some τ → τ.length = σ.length
  | [], τ, h => by simp only [sv_evs, Option.some.injEq] at h; subst h; rfl
  | a :: l, τ, h => by
    obtain ⟨x0, z0, q1, q2, rfl⟩ := sv_evs_cons.mp h
    simp [sv_evs_len q2]
theorem sv_suT_ok {ρ : List Int} {σ : List SvL} {τ : List Int} (hσ : sv_evs ρ σ = some τ) : ∀ {t : List (Nat × Int)} {r : SvL}, sv_suT σ t = some r → ∃ y, sv_evT τ t = some y
  | [], r, _ => ⟨0, rfl⟩
  | (v, c) :: t, r, h1 => by
    simp only [sv_suT] at h1
    cases he : sv_nth σ v with
    | none => rw [he] at h1; simp at h1
    | some e =>
      rw [he] at h1
      cases hr : sv_suT σ t with
      | none => rw [hr] at h1; simp at h1
      | some r' =>
        obtain ⟨x, hx, -⟩ := sv_evs_nth hσ he
        obtain ⟨y, hy⟩ := sv_suT_ok hσ hr
        exact ⟨c * x + y, sv_evT_cons.mpr ⟨x, y, hx, hy, rfl⟩⟩
theorem sv_su_ok {ρ : List Int} {σ : List SvL} {τ : List Int} (hσ : sv_evs ρ σ = some τ) {e r : SvL} (h1 : sv_su σ e = some r) : ∃ y, sv_ev τ e = some y ∧ sv_ev ρ r = some y := by
  have h2 := h1
  unfold sv_su at h2
  cases hr : sv_suT σ e.2 with
  | none => rw [hr] at h2; simp at h2
  | some r' =>
    obtain ⟨y, hy⟩ := sv_suT_ok hσ hr
    have h3 : sv_ev τ e = some (e.1 + y) := sv_ev_iff.mpr ⟨y, hy, rfl⟩
    exact ⟨e.1 + y, h3, sv_ev_su hσ h1 h3⟩
theorem sv_sus_ok {ρ : List Int} {σ : List SvL} {τ : List Int} (hσ : sv_evs ρ σ = some τ) : ∀ {es rs : List SvL}, sv_sus σ es = some rs → ∃ ys, sv_evs τ es = some ys ∧ sv_evs ρ rs = some ys
  | [], rs, h => by simp only [sv_sus, Option.some.injEq] at h; subst h; exact ⟨[], rfl, rfl⟩
  | e :: t, rs, h => by
    simp only [sv_sus] at h
    cases he : sv_su σ e with
    | none => rw [he] at h; simp at h
    | some x =>
      rw [he] at h
      cases ht : sv_sus σ t with
      | none => rw [ht] at h; simp at h
      | some xs =>
        rw [ht] at h
        simp only [Option.some.injEq] at h
        subst h
        obtain ⟨y, h1, h2⟩ := sv_su_ok hσ he
        obtain ⟨ys, h3, h4⟩ := sv_sus_ok hσ ht
        exact ⟨y :: ys, sv_evs_cons.mpr ⟨y, ys, h1, h3, rfl⟩, sv_evs_cons.mpr ⟨y, ys, h2, h4, rfl⟩⟩
-- bounds
def sv_BOk (ρ : List Int) (b : List SvB) : Prop := ρ.length = b.length ∧ ∀ (i : Nat) (x : Int) (q : SvB), sv_nth ρ i = some x → sv_nth b i = some q → q.1 ≤ x ∧ ∀ h, q.2 = some h → x ≤ h
theorem sv_lbT_ok {ρ : List Int} {b : List SvB} (hb : sv_BOk ρ b) : ∀ {t : List (Nat × Int)} {x l : Int}, sv_evT ρ t = some x → sv_lbT b t = some l → l ≤ x
  | [], x, l, h1, h2 => by
    simp only [sv_evT, Option.some.injEq] at h1
    simp only [sv_lbT, Option.some.injEq] at h2
    omega
  | (v, c) :: t, x, l, h1, h2 => by
    obtain ⟨y, z, g1, g2, rfl⟩ := sv_evT_cons.mp h1
    simp only [sv_lbT] at h2
    cases hq : sv_nth b v with
    | none => rw [hq] at h2; simp at h2
    | some q =>
      rw [hq] at h2
      cases hl : sv_lbT b t with
      | none => rw [hl] at h2; simp at h2
      | some u =>
        rw [hl] at h2
        have ih := sv_lbT_ok hb g2 hl
        obtain ⟨q1, q2⟩ := hb.2 v y q g1 hq
        cases hc : sv_ge0 c with
        | true =>
          rw [hc] at h2
          simp only [cond_true, Option.some.injEq] at h2
          subst h2
          have hm := Int.mul_le_mul_of_nonneg_left q1 ((sv_ge0_iff c).mp hc)
          show c * q.1 + u ≤ c * y + z
          omega
        | false =>
          rw [hc] at h2
          simp only [cond_false] at h2
          cases hh : q.2 with
          | none => rw [hh] at h2; simp at h2
          | some h =>
            rw [hh] at h2
            simp only [Option.some.injEq] at h2
            subst h2
            have hc' : c ≤ 0 := by
              by_cases h0 : 0 ≤ c
              · rw [(sv_ge0_iff c).mpr h0] at hc; cases hc
              · omega
            have hm := Int.mul_le_mul_of_nonpos_left hc' (q2 h hh)
            show c * h + u ≤ c * y + z
            omega
theorem sv_lb_ok {ρ : List Int} {b : List SvB} (hb : sv_BOk ρ b) {e : SvL} {x l : Int} (h1 : sv_ev ρ e = some x) (h2 : sv_lb b e = some l) : l ≤ x := by
  obtain ⟨z, g1, rfl⟩ := sv_ev_iff.mp h1
  unfold sv_lb at h2
  cases hl : sv_lbT b e.2 with
  | none => rw [hl] at h2; simp at h2
  | some u =>
    rw [hl] at h2
    simp only [Option.some.injEq] at h2
    subst h2
    have := sv_lbT_ok hb g1 hl
    show e.1 + u ≤ _
    omega
theorem sv_ub_ok {ρ : List Int} {b : List SvB} (hb : sv_BOk ρ b) {e : SvL} {x h : Int} (h1 : sv_ev ρ e = some x) (h2 : sv_ub b e = some h) : x ≤ h := by
  unfold sv_ub at h2
  cases hl : sv_lb b (sv_sc (-1) e) with
  | none => rw [hl] at h2; simp at h2
  | some u =>
    rw [hl] at h2
    simp only [Option.some.injEq] at h2
    subst h2
    have := sv_lb_ok hb (sv_ev_sc (k := -1) h1) hl
    show x ≤ -u
    omega
