/-! what holds between the calls: the class and the reference tell of one town, one round, the same rows -/
def cp (k : Nat) : Nat := if k < 6 then 60 else 80
/-- where one stands, what is lit, the last, whether inside -/
abbrev sT : Type := Nat × Nat × Int32 × Bool
def sOk (T : tT) (s : sT) : Prop := s.1 < tC T ∧ (tS T).testBit s.1 = true ∧ s.2.1 < 2 ^ tN T ∧ (s.2.2.2 = true → ∃ k, k < tN T ∧ s.2.2.1 = nI k)
def bI (b : Bool) : Int32 := if b then 1 else 0
/-- a stand of the class -/
def sC (s : sT) (c : Nat) (I : am_I) : Prop := I c 0 = nI s.1 ∧ I c 1 = nI s.2.1 ∧ I c 2 = s.2.2.1 ∧ I c 3 = bI s.2.2.2
/-- what one does next, as far as the places go -/
def sGo (T : tT) (p a p' : Nat) : Prop := (a < 4 ∧ nx T p a = some p') ∨ (a = 4 ∧ p' = p ∧ ∃ k, k < tN T ∧ tP T k = p)
/-- what the class has learnt of orders is so, or is known to be stale -/
def InvO (T : tT) (sh : Nat) (t : am_T) (I : am_I) : Prop := I 25 1 = 1 ∨ (I 25 1 = 0 ∧ t.2 = (some 7, some 12) ∧ I 25 3 = nI (tN T) ∧ I 25 4 = nI (al T) ∧ tabs T sh I)
/-- what may change without a trace in the third part -/
def exX : List Nat := [3, 4, 5, 6, 14, 15, 20, 25, 26, 31, 32, 33, 34, 35, 36, 37, 38, 39, 40, 41, 42, 43, 44, 45, 46, 47, 48, 49, 50, 51, 52, 53, 54, 55, 56, 57, 61, 62, 63, 64, 65, 74, 75, 76, 77, 78]
