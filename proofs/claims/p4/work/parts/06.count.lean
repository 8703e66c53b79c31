def sv_mkf : List SvL → List SvF → List SvF
  | [], l => l
  | e :: t, l => (0, [], [e]) :: sv_mkf t l
/-- a new number with bounds and rows of its own -/
def sv_freshF (S : SvS) (t : Nat) (rest : List SvA) (lo hi : Int) (fs : List SvL) : SvS := (S.1 ++ [(lo, some hi)], S.2.1, (t, sv_v S.1.length) :: rest, sv_mkf fs S.2.2.2)
def sv_min (a b : Int) : Int := bif sv_le a b then a else b
def sv_max (a b : Int) : Int := bif sv_le a b then b else a
/-- the one value that a form has -/
def sv_cst (b : List SvB) (e : SvL) : Option Int := match sv_lb b e with
  | some x => match sv_ub b e with
    | some y => bif sv_ieq x y then some x else none
    | none => none
  | none => none
def sv_divk (t : Nat) (S : SvS) (rest : List SvA) (e : SvL) (k : Int) : Option SvS := match sv_lb S.1 e with
  | some lo => match sv_ub S.1 e with
    | some hi => bif sv_ge0 lo then some (sv_freshF S t rest (Int.ediv lo k) (Int.ediv hi k) [sv_sub e (sv_sc k (sv_v S.1.length)), sv_addc (sv_sub (sv_sc k (sv_v S.1.length)) e) (Int.sub k 1)])
      else some (sv_freshF S t rest (sv_lo t) (sv_hi t) [sv_addc (sv_sub e (sv_sc k (sv_v S.1.length))) (Int.sub k 1), sv_addc (sv_sub (sv_sc k (sv_v S.1.length)) e) (Int.sub k 1)])
    | none => none
  | none => none
def sv_remk (t : Nat) (S : SvS) (rest : List SvA) (e : SvL) (k : Int) : Option SvS := match sv_lb S.1 e with
  | some lo => bif sv_ge0 lo then (match sv_ub S.1 e with
    | some hi => some ((S.1 ++ [(Int.ediv lo k, some (Int.ediv hi k))]) ++ [(0, some (Int.sub k 1))], S.2.1, (t, sv_v (S.1.length + 1)) :: rest,
        sv_mkf [sv_sub (sv_sub e (sv_sc k (sv_v S.1.length))) (sv_v (S.1.length + 1)), sv_sub (sv_v (S.1.length + 1)) (sv_sub e (sv_sc k (sv_v S.1.length)))] S.2.2.2)
    | none => none) else some (sv_fresh S t rest (Int.sub 1 k) (Int.sub k 1))
  | none => none
/-- floor by a power -/
def sv_shrk (t : Nat) (S : SvS) (rest : List SvA) (e : SvL) (k : Nat) : Option SvS := match sv_lb S.1 e with
  | some lo => match sv_ub S.1 e with
    | some hi => some (sv_freshF S t rest (Int.ediv lo (Int.ofNat (2 ^ k))) (Int.ediv hi (Int.ofNat (2 ^ k))) [sv_sub e (sv_sc (Int.ofNat (2 ^ k)) (sv_v S.1.length)), sv_addc (sv_sub (sv_sc (Int.ofNat (2 ^ k)) (sv_v S.1.length)) e) (Int.sub (Int.ofNat (2 ^ k)) 1)])
    | none => none
  | none => none
/-- the rest by a power, and what is left out as one more number -/
def sv_modk (t : Nat) (S : SvS) (rest : List SvA) (e : SvL) (k : Nat) : Option SvS := match sv_lb S.1 e with
  | some lo => match sv_ub S.1 e with
    | some hi => some ((S.1 ++ [(Int.ediv lo (Int.ofNat (2 ^ k)), some (Int.ediv hi (Int.ofNat (2 ^ k))))]) ++ [(0, some (Int.sub (Int.ofNat (2 ^ k)) 1))], S.2.1, (t, sv_v (S.1.length + 1)) :: rest,
        sv_mkf [sv_sub (sv_sub e (sv_sc (Int.ofNat (2 ^ k)) (sv_v S.1.length))) (sv_v (S.1.length + 1)), sv_sub (sv_v (S.1.length + 1)) (sv_sub e (sv_sc (Int.ofNat (2 ^ k)) (sv_v S.1.length)))] S.2.2.2)
    | none => none
  | none => none
def sv_bits (t : Nat) : Nat := bif Nat.beq t 1 then 32 else 64
/-- and: 0 mask at the right | 1 at the left | 2 the mask is a power less one (at the right) | 3 at the left | 4 any number -/
def sv_and (t : Nat) (S : SvS) (rest : List SvA) (a b : SvL) : List Nat → Option (SvS × List Nat)
  | 0 :: w => match sv_lb S.1 b with
    | some lo => match sv_ub S.1 b with
      | some hi => bif sv_ge0 lo then some (sv_fresh S t rest 0 hi, w) else none
      | none => none
    | none => none
  | 1 :: w => match sv_lb S.1 a with
    | some lo => match sv_ub S.1 a with
      | some hi => bif sv_ge0 lo then some (sv_fresh S t rest 0 hi, w) else none
      | none => none
    | none => none
  | 2 :: k :: w => match sv_cst S.1 b with
    | some x => bif sv_ieq x (Int.ofNat (2 ^ k - 1)) && Nat.blt k (sv_bits t) then (match sv_modk t S rest a k with | some S' => some (S', w) | none => none) else none
    | none => none
  | 4 :: w => some (sv_fresh S t rest (sv_lo t) (sv_hi t), w)
  | _ => none
def sv_dvdT (k : Int) : List (Nat × Int) → Bool
  | [] => true
  | (_, c) :: t => sv_iz (Int.emod c k) && sv_dvdT k t
def sv_dvd (k : Int) (e : SvL) : Bool := sv_iz (Int.emod e.1 k) && sv_dvdT k e.2
/-- or, xor: 0 both below a power | 1 a sum (or alone) | 4 any number -/
def sv_or (t : Nat) (S : SvS) (rest : List SvA) (a b : SvL) (isOr : Bool) : List Nat → Option (SvS × List Nat)
  | 0 :: k :: w => bif sv_in S.1 a 0 (Int.ofNat (2 ^ k - 1)) && sv_in S.1 b 0 (Int.ofNat (2 ^ k - 1)) && Nat.blt k (sv_bits t) then some (sv_fresh S t rest 0 (Int.ofNat (2 ^ k - 1)), w) else none
  | 1 :: k :: w => bif isOr && sv_in S.1 a 0 (sv_hi t) && sv_in S.1 b 0 (Int.ofNat (2 ^ k - 1)) && sv_in S.1 (sv_add a b) 0 (sv_hi t) && sv_dvd (Int.ofNat (2 ^ k)) a then some ((S.1, S.2.1, (t, sv_add a b) :: rest, S.2.2.2), w) else none
  | 4 :: w => some (sv_fresh S t rest (sv_lo t) (sv_hi t), w)
  | _ => none
/-- 5 with the sides changed -/
def sv_or2 (t : Nat) (S : SvS) (rest : List SvA) (a b : SvL) (isOr : Bool) (w : List Nat) : Option (SvS × List Nat) := match w with
  | 5 :: w1 => bif isOr then sv_or t S rest b a isOr w1 else none
  | _ => sv_or t S rest a b isOr w
def sv_sel (t : Nat) (b : List SvB) (e : SvL) : Option Nat := match sv_cst b e with
  | some (.ofNat k) => bif Nat.blt k (sv_bits t) then some k else none
  | _ => none
def sv_pc (o : Option SvS) (k pc : Nat) (w : List Nat) : Option (List (SvS × Nat) × List Nat) := match o with
  | some S' => some ([(S', pc + k)], w)
  | none => none
def sv_pr (o : Option (SvS × List Nat)) (k pc : Nat) : Option (List (SvS × Nat) × List Nat) := match o with
  | some (S', w) => some ([(S', pc + k)], w)
  | none => none
/-- a product of two that are no constants: any number, or by the corners where both are not negative -/
def sv_mulv (t : Nat) (S : SvS) (rest : List SvA) (a b : SvL) : SvS := match sv_lb S.1 a, sv_ub S.1 a, sv_lb S.1 b, sv_ub S.1 b with
  | some la, some ua, some lb, some ub => bif sv_ge0 la && sv_ge0 lb && sv_le (Int.mul ua ub) (sv_hi t) then sv_fresh S t rest (Int.mul la lb) (Int.mul ua ub) else sv_fresh S t rest (sv_lo t) (sv_hi t)
  | _, _, _, _ => sv_fresh S t rest (sv_lo t) (sv_hi t)
/-- counts -/
def sv_B (S : SvS) (pc : Nat) (i : Instr) (n : Nat) (w : List Nat) : Option (List (SvS × Nat) × List Nat) := bif Nat.beq n 1 then (match i with
  | .iadd => match S.2.2.1 with | (1, b) :: (1, a) :: r => sv_pr (sv_res 1 S r (sv_add a b) w) 1 pc | _ => none
  | .isub => match S.2.2.1 with | (1, b) :: (1, a) :: r => sv_pr (sv_res 1 S r (sv_sub a b) w) 1 pc | _ => none
  | .ladd => match S.2.2.1 with | (2, b) :: (2, a) :: r => sv_pr (sv_res 2 S r (sv_add a b) w) 1 pc | _ => none
  | .lsub => match S.2.2.1 with | (2, b) :: (2, a) :: r => sv_pr (sv_res 2 S r (sv_sub a b) w) 1 pc | _ => none
  | .ineg => match S.2.2.1 with | (1, a) :: r => sv_pr (sv_res 1 S r (sv_sc (-1) a) w) 1 pc | _ => none
  | .lneg => match S.2.2.1 with | (2, a) :: r => sv_pr (sv_res 2 S r (sv_sc (-1) a) w) 1 pc | _ => none
  | .imul => match S.2.2.1 with
    | (1, b) :: (1, a) :: r => match sv_cst S.1 b with
      | some k => sv_pr (sv_res 1 S r (sv_sc k a) w) 1 pc
      | none => match sv_cst S.1 a with
        | some k => sv_pr (sv_res 1 S r (sv_sc k b) w) 1 pc
        | none => sv_pc (some (sv_mulv 1 S r a b)) 1 pc w
    | _ => none
  | .lmul => match S.2.2.1 with
    | (2, b) :: (2, a) :: r => match sv_cst S.1 b with
      | some k => sv_pr (sv_res 2 S r (sv_sc k a) w) 1 pc
      | none => match sv_cst S.1 a with
        | some k => sv_pr (sv_res 2 S r (sv_sc k b) w) 1 pc
        | none => sv_pc (some (sv_mulv 2 S r a b)) 1 pc w
    | _ => none
  | .idiv => match S.2.2.1 with
    | (1, b) :: (1, a) :: r => match sv_cst S.1 b with
      | some k => bif sv_le 1 k then sv_pc (sv_divk 1 S r a k) 1 pc w else none
      | none => match sv_lb S.1 b with
        | some k => bif sv_le 1 k then sv_pc (some (sv_fresh S 1 r (sv_lo 1) (sv_hi 1))) 1 pc w else none
        | none => none
    | _ => none
  | .ldiv => match S.2.2.1 with
    | (2, b) :: (2, a) :: r => match sv_cst S.1 b with
      | some k => bif sv_le 1 k then sv_pc (sv_divk 2 S r a k) 1 pc w else none
      | none => none
    | _ => none
  | .irem => match S.2.2.1 with
    | (1, b) :: (1, a) :: r => match sv_cst S.1 b with
      | some k => bif sv_le 1 k then sv_pc (sv_remk 1 S r a k) 1 pc w else none
      | none => match sv_lb S.1 b with
        | some k => bif sv_le 1 k then sv_pc (some (sv_fresh S 1 r (sv_lo 1) (sv_hi 1))) 1 pc w else none
        | none => none
    | _ => none
  | .iand => match S.2.2.1 with | (1, b) :: (1, a) :: r => sv_pr (sv_and 1 S r a b w) 1 pc | _ => none
  | .land => match S.2.2.1 with | (2, b) :: (2, a) :: r => sv_pr (sv_and 2 S r a b w) 1 pc | _ => none
  | .ior => match S.2.2.1 with | (1, b) :: (1, a) :: r => sv_pr (sv_or2 1 S r a b true w) 1 pc | _ => none
  | .lor => match S.2.2.1 with | (2, b) :: (2, a) :: r => sv_pr (sv_or2 2 S r a b true w) 1 pc | _ => none
  | .ixor => match S.2.2.1 with | (1, b) :: (1, a) :: r => sv_pr (sv_or 1 S r a b false w) 1 pc | _ => none
  | .lxor => match S.2.2.1 with | (2, b) :: (2, a) :: r => sv_pr (sv_or 2 S r a b false w) 1 pc | _ => none
  | .ishl => match S.2.2.1 with
    | (1, b) :: (1, a) :: r => match sv_sel 1 S.1 b with
      | some k => sv_pr (sv_res 1 S r (sv_sc (Int.ofNat (2 ^ k)) a) w) 1 pc
      | none => sv_pc (some (sv_fresh S 1 r (sv_lo 1) (sv_hi 1))) 1 pc w
    | _ => none
  | .lshl => match S.2.2.1 with | (1, _) :: (2, _) :: r => sv_pc (some (sv_fresh S 2 r (sv_lo 2) (sv_hi 2))) 1 pc w | _ => none
  | .ishr => match S.2.2.1 with
    | (1, b) :: (1, a) :: r => match sv_sel 1 S.1 b with
      | some k => sv_pc (sv_shrk 1 S r a k) 1 pc w
      | none => sv_pc (some (sv_fresh S 1 r (sv_lo 1) (sv_hi 1))) 1 pc w
    | _ => none
  | .lshr => match S.2.2.1 with
    | (1, b) :: (2, a) :: r => match sv_sel 2 S.1 b with
      | some k => sv_pc (sv_shrk 2 S r a k) 1 pc w
      | none => sv_pc (some (sv_fresh S 2 r (sv_lo 2) (sv_hi 2))) 1 pc w
    | _ => none
  | .iushr => match S.2.2.1 with
    | (1, b) :: (1, a) :: r => match sv_sel 1 S.1 b with
      | some k => match sv_lb S.1 a with
        | some lo => bif sv_ge0 lo then sv_pc (sv_shrk 1 S r a k) 1 pc w else bif Nat.beq k 0 then none else sv_pc (some (sv_fresh S 1 r 0 (Int.ofNat (2 ^ (32 - k) - 1)))) 1 pc w
        | none => none
      | none => sv_pc (some (sv_fresh S 1 r (sv_lo 1) (sv_hi 1))) 1 pc w
    | _ => none
  | .lushr => match S.2.2.1 with | (1, _) :: (2, _) :: r => sv_pc (some (sv_fresh S 2 r (sv_lo 2) (sv_hi 2))) 1 pc w | _ => none
  | .i2l => match S.2.2.1 with | (1, a) :: r => sv_pc (some (S.1, S.2.1, (2, a) :: r, S.2.2.2)) 1 pc w | _ => none
  | .l2i => match S.2.2.1 with | (2, a) :: r => sv_pr (sv_res 1 S r a w) 1 pc | _ => none
  | .i2b => match S.2.2.1 with | (1, a) :: r => bif sv_in S.1 a (-128) 127 then sv_pc (some (S.1, S.2.1, (1, a) :: r, S.2.2.2)) 1 pc w else sv_pc (some (sv_fresh S 1 r (-128) 127)) 1 pc w | _ => none
  | _ => none) else none
