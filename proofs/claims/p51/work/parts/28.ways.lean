/-! steps from lamp to lamp, and what comes of them (over naturals) -/
/-- the first number below n that a test lets through -/
def fstN : Nat → (Nat → Bool) → Option Nat
  | 0, _ => none
  | n + 1, p => match fstN n p with
    | some i => some i
    | none => if p n then some n else none
def oadd (a b : Option Nat) : Option Nat := match a with
  | some x => match b with
    | some y => some (x + y)
    | none => none
  | none => none
def omin (a b : Option Nat) : Option Nat := match a with
  | some x => match b with
    | some y => some (min x y)
    | none => some x
  | none => b
def ominN : Nat → (Nat → Option Nat) → Option Nat
  | 0, _ => none
  | n + 1, f => omin (ominN n f) (f n)
def sumN : Nat → (Nat → Nat) → Nat
  | 0, _ => 0
  | n + 1, f => sumN n f + f n
/-- who is inside (in the own light), who outside, after i steps or fewer -/
def wo (T : tT) (f own br : Nat) : Nat → Nat × Nat
  | 0 => (f &&& own, f &&& cm own)
  | i + 1 => ((wo T f own br i).1 ||| ((nr T (wo T f own br i).1 &&& cm br) &&& own), (wo T f own br i).2 ||| (((nr T (wo T f own br i).1 ||| nr T (wo T f own br i).2) &&& cm br) &&& cm own))
def pace (T : tT) (f own br p : Nat) : Option Nat := if own.testBit p = true ∨ br.testBit p = true then none else fstN 25 (fun i => (wo T f own br i).2.testBit p)
/-- from the lamp lit last (7: from a cell, by others' light ot) to the next, where a set is lit -/
def gap0 (T : tT) (sh st ot set last next : Nat) : Option Nat := if set = 0 then pace T (1 <<< st) 0 ot (tP T next) else pace T (1 <<< tP T last) (shn T sh last) (lit T sh (set - 2 ^ last) ||| ot) (tP T next)
def gap (T : tT) (sh set last next : Nat) : Option Nat := if set ≤ al T ∧ next < tN T ∧ (if set = 0 then last = 7 else set.testBit last = true) then gap0 T sh (tD T) 0 set last next else none
theorem two_le {s l : Nat} (h : s.testBit l = true) : 2 ^ l ≤ s := by
  by_cases q : 2 ^ l ≤ s
  · exact q
  · rw [Nat.testBit_lt_two_pow (by omega)] at h
    cases h
/-- the fewest steps by which a set is lit, a lamp last -/
def Fo (g : Nat → Nat → Nat → Option Nat) (set l : Nat) : Option Nat :=
  if set = 0 then (if l = 7 then some 0 else none)
  else if h : set.testBit l = true then ominN 8 (fun last => oadd (Fo g (set - 2 ^ l) last) (g (set - 2 ^ l) last l)) else none
termination_by set
decreasing_by
  have := two_le h
  have := Nat.two_pow_pos l
  omega
/-- the fewest steps that are left, all but a set being lit yet -/
def Bo (g : Nat → Nat → Nat → Option Nat) (n a set last : Nat) : Option Nat :=
  if h : a ≤ set then some 0
  else ominN n (fun next => if set.testBit next then none else oadd (g set last next) (Bo g n a (set + 2 ^ next) next))
termination_by a - set
decreasing_by
  have := Nat.two_pow_pos next
  omega
/-- how many orders there are of a set, a lamp last; only such as a test lets through -/
def Wo (g : Nat → Nat → Nat → Option Nat) (ok : Nat → Nat → Bool) (set l : Nat) : Nat :=
  if set = 0 then (if l = 7 then 1 else 0)
  else if h : set.testBit l = true then sumN 8 (fun last => if (g (set - 2 ^ l) last l).isSome && ok (set - 2 ^ l) l then Wo g ok (set - 2 ^ l) last else 0) else 0
termination_by set
decreasing_by
  have := two_le h
  have := Nat.two_pow_pos l
  omega
def Fm (g : Nat → Nat → Nat → Option Nat) (set : Nat) : Option Nat := ominN 8 (fun l => Fo g set l)
/-- NEVER is none -/
def eN (o : Option Nat) : Int32 := match o with
  | some x => nI x
  | none => nI 1048576
/-- NONE is none -/
def eM (o : Option Nat) : Int32 := match o with
  | some x => nI x
  | none => -9
/-- what the class has learnt -/
def tabs (T : tT) (sh : Nat) (I : am_I) : Prop :=
  (∀ s l k, s < 64 → l < 8 → k < 8 → I 27 (64 * s + 8 * l + k) = eN (gap T sh s l k)) ∧
  (∀ s l, s < 64 → l < 8 → I 28 (8 * s + l) = eN (if s ≤ al T then Fo (gap T sh) s l else none)) ∧
  (∀ s l, s ≤ al T → l < 8 → I 29 (8 * s + l) = eN (Bo (gap T sh) (tN T) (al T) s l)) ∧
  ∀ s, s ≤ al T → I 30 s = eN (Fm (gap T sh) s)
