/-! what a town is, and what its lamps light (over naturals) -/
/-- width, height, streets, door, how many lamps; kinds, spots, reaches -/
abbrev tT : Type := (Nat × Nat × Nat × Nat × Nat) × (Nat → Nat) × (Nat → Nat) × (Nat → Nat)
def tW (T : tT) : Nat := T.1.1
def tH (T : tT) : Nat := T.1.2.1
def tS (T : tT) : Nat := T.1.2.2.1
def tD (T : tT) : Nat := T.1.2.2.2.1
def tN (T : tT) : Nat := T.1.2.2.2.2
def tK (T : tT) : Nat → Nat := T.2.1
def tP (T : tT) : Nat → Nat := T.2.2.1
def tR (T : tT) : Nat → Nat := T.2.2.2
def tC (T : tT) : Nat := tW T * tH T
/-- walls and streets as they may be: a rectangle -/
def tG (T : tT) : Prop := 2 ≤ tW T ∧ tW T ≤ 6 ∧ 1 ≤ tH T ∧ tH T ≤ 4 ∧ tS T < 2 ^ tC T
def tLp (T : tT) (k : Nat) : Prop := tK T k ≤ 5 ∧ tP T k < tC T ∧ (tS T).testBit (tP T k) = true ∧ 1 ≤ tR T k ∧ tR T k ≤ 5
def tOk (T : tT) : Prop := tG T ∧ tD T < tC T ∧ (tS T).testBit (tD T) = true ∧ tN T ≤ 6 ∧ (∀ k, k < tN T → tLp T k) ∧ ∀ j k, j < tN T → k < tN T → tP T j = tP T k → j = k
def tE (T : tT) : Prop := tW T = 0 ∧ tH T = 0 ∧ tS T = 0 ∧ tD T = 0 ∧ tN T = 0
def tOK (T : tT) : Prop := tOk T ∨ tE T
def lA (T : tT) : Nat := bO (tC T) (fun i => decide (i % tW T = 0))
def rB (T : tT) : Nat := bO (tC T) (fun i => decide (i % tW T + 1 = tW T))
def nr (T : tT) (s : Nat) : Nat := ((s >>> tW T ||| s <<< tW T) ||| ((s &&& cm (rB T)) <<< 1 ||| (s &&& cm (lA T)) >>> 1)) &&& tS T
/-- a step of a set of cells by a way -/
def bs (T : tT) (way s : Nat) : Nat := match way with
  | 0 => s >>> tW T &&& tS T
  | 1 => (s &&& cm (rB T)) <<< 1 &&& tS T
  | 2 => s <<< tW T &&& tS T
  | _ => (s &&& cm (lA T)) >>> 1 &&& tS T
/-- a step of one cell by a way -/
def nq (T : tT) (c way : Nat) : Option Nat := match way with
  | 0 => if c < tW T then none else some (c - tW T)
  | 1 => if c % tW T + 1 = tW T then none else some (c + 1)
  | 2 => if c + tW T < tC T then some (c + tW T) else none
  | _ => if c % tW T = 0 then none else some (c - 1)
def nx (T : tT) (c way : Nat) : Option Nat := match nq T c way with
  | some j => if (tS T).testBit j then some j else none
  | none => none
def oneO (o : Option Nat) : Nat := match o with
  | some j => 1 <<< j
  | none => 0
def orN : Nat → (Nat → Nat) → Nat
  | 0, _ => 0
  | n + 1, f => orN n f ||| f n
def lnAt (T : tT) (c way : Nat) : Nat → Option Nat
  | 0 => some c
  | i + 1 => match lnAt T c way i with
    | some j => nx T j way
    | none => none
/-- by a line, n steps at most -/
def lnS (T : tT) (c way n : Nat) : Nat := orN (n + 1) (fun i => oneO (lnAt T c way i))
def ln (T : tT) (c n ways : Nat) : Nat := 1 <<< c ||| orN 4 (fun way => if ways.testBit way then lnS T c way n else 0)
def cor (T : tT) (c : Nat) : Nat → Nat
  | 0 => 1 <<< c
  | i + 1 => cor T c i ||| nr T (cor T c i)
def far (T : tT) (k : Nat) : Nat := if tK T k = 1 ∨ tK T k = 5 then tR T k + 1 else if tK T k = 4 then tR T k - 1 else tR T k
def bare (T : tT) (k : Nat) : Nat := if tK T k = 2 ∨ tK T k = 5 then cor T (tP T k) (far T k) else ln T (tP T k) (far T k) (if tK T k = 3 ∨ tK T k = 4 then 10 else 15)
def shn (T : tT) (sh k : Nat) : Nat := if sh.testBit k then 1 <<< tP T k else bare T k
def lit (T : tT) (sh s : Nat) : Nat := orN (tN T) (fun k => if s.testBit k then shn T sh k else 0)
def lc (T : tT) : Nat := orN (tN T) (fun k => 1 <<< tP T k)
def al (T : tT) : Nat := 2 ^ tN T - 1
/-! how the class keeps it -/
def cG (T : tT) (I : am_I) : Prop := I 7 1 = nI (tS T) ∧ I 7 9 = nI (tW T) ∧ I 7 10 = nI (lA T) ∧ I 7 11 = nI (rB T)
def cLp (T : tT) (I : am_I) (k : Nat) : Prop := I 8 k = nI (tK T k) ∧ I 9 k = nI (tP T k) ∧ I 10 k = nI (tR T k)
def cT (T : tT) (I : am_I) : Prop := cG T I ∧ I 7 0 = nI (tC T) ∧ I 7 2 = nI (tD T) ∧ I 7 3 = nI (tN T) ∧ I 7 4 = nI (lc T) ∧ (∀ k, k < tN T → cLp T I k) ∧ ∀ k, k < tN T → I 11 k = nI (bare T k)
def cL (T : tT) (sh c : Nat) (I : am_I) : Prop := ∀ s, s < 64 → I c s = nI (lit T sh s)
/-! bounds -/
theorem orN_lt {n : Nat} : ∀ (m : Nat) (f : Nat → Nat), (∀ i, i < m → f i < 2 ^ n) → orN m f < 2 ^ n
  | 0, _, _ => Nat.two_pow_pos n
  | m + 1, f, h => or_lt (orN_lt m f (fun i hi => h i (by omega))) (h m (by omega))
theorem tb_orN : ∀ (m : Nat) (f : Nat → Nat) (i : Nat), (orN m f).testBit i = true ↔ ∃ k, k < m ∧ (f k).testBit i = true
  | 0, f, i => by simp [orN]
  | m + 1, f, i => by
    unfold orN
    rw [Nat.testBit_or, Bool.or_eq_true, tb_orN m f i]
    constructor
    · rintro (⟨k, hk, h⟩ | h)
      · exact ⟨k, by omega, h⟩
      · exact ⟨m, by omega, h⟩
    · rintro ⟨k, hk, h⟩
      by_cases e : k = m
      · subst e; exact Or.inr h
      · exact Or.inl ⟨k, by omega, h⟩
theorem orN_cong {m : Nat} {f g : Nat → Nat} (h : ∀ i, i < m → f i = g i) : orN m f = orN m g := by
  induction m with
  | zero => rfl
  | succ m ih =>
    unfold orN
    rw [ih (fun i hi => h i (by omega)), h m (by omega)]
theorem tG.c24 {T : tT} (h : tG T) : tC T ≤ 24 := Nat.mul_le_mul h.2.1 h.2.2.2.1
theorem tG.c2 {T : tT} (h : tG T) : 2 ≤ tC T := Nat.mul_le_mul h.1 h.2.2.1
theorem tG.s24 {T : tT} (h : tG T) : tS T < 2 ^ 24 := Nat.lt_of_lt_of_le h.2.2.2.2 (Nat.pow_le_pow_right (by decide) h.c24)
theorem nr_lt {T : tT} (h : tG T) (s : Nat) : nr T s < 2 ^ 24 := and_lt' _ h.s24
theorem nr_ltC {T : tT} (h : tG T) (s : Nat) : nr T s < 2 ^ tC T := and_lt' _ h.2.2.2.2
theorem bs_lt {T : tT} (h : tG T) (way s : Nat) : bs T way s < 2 ^ 24 := by
  unfold bs
  split <;> exact and_lt' _ h.s24
theorem nx_lt {T : tT} (h : tG T) {c way j : Nat} (e : nx T c way = some j) : j < tC T ∧ (tS T).testBit j = true := by
  unfold nx at e
  split at e
  · split at e
    · rename_i h1
      cases e
      refine ⟨?_, h1⟩
      by_cases hj : j < tC T
      · exact hj
      · rw [tb_big h.2.2.2.2 (by omega)] at h1
        cases h1
    · cases e
  · cases e
theorem lnAt_lt {T : tT} (h : tG T) {c way : Nat} (hc : c < tC T) : ∀ (i j : Nat), lnAt T c way i = some j → j < tC T
  | 0, j, e => by cases e; exact hc
  | i + 1, j, e => by
    unfold lnAt at e
    split at e
    · exact (nx_lt h e).1
    · cases e
theorem oneO_lt {o : Option Nat} {n : Nat} (h : ∀ j, o = some j → j < n) : oneO o < 2 ^ n := by
  cases o with
  | none => exact Nat.two_pow_pos n
  | some j => exact one_lt (h j rfl)
theorem lnS_lt {T : tT} (h : tG T) {c way n : Nat} (hc : c < tC T) : lnS T c way n < 2 ^ tC T := orN_lt _ _ (fun i _ => oneO_lt (lnAt_lt h hc i))
theorem ln_lt {T : tT} (h : tG T) {c n ways : Nat} (hc : c < tC T) : ln T c n ways < 2 ^ tC T := by
  refine or_lt (one_lt hc) (orN_lt _ _ (fun way _ => ?_))
  split
  · exact lnS_lt h hc
  · exact Nat.two_pow_pos _
theorem cor_lt {T : tT} (h : tG T) {c : Nat} (hc : c < tC T) : ∀ n, cor T c n < 2 ^ tC T
  | 0 => one_lt hc
  | n + 1 => or_lt (cor_lt h hc n) (nr_ltC h _)
theorem bare_lt {T : tT} (h : tG T) {k : Nat} (hk : tP T k < tC T) : bare T k < 2 ^ tC T := by
  unfold bare
  split
  · exact cor_lt h hk _
  · exact ln_lt h hk
theorem shn_lt {T : tT} (h : tG T) {sh k : Nat} (hk : tP T k < tC T) : shn T sh k < 2 ^ tC T := by
  unfold shn
  split
  · exact one_lt hk
  · exact bare_lt h hk
theorem up24 {T : tT} (h : tG T) {a : Nat} (ha : a < 2 ^ tC T) : a < 2 ^ 24 := Nat.lt_of_lt_of_le ha (Nat.pow_le_pow_right (by decide) h.c24)
theorem lit_lt {T : tT} (h : tOk T) (sh s : Nat) : lit T sh s < 2 ^ tC T := by
  refine orN_lt _ _ (fun k hk => ?_)
  split
  · exact shn_lt h.1 (h.2.2.2.2.1 k hk).2.1
  · exact Nat.two_pow_pos _
theorem lit_E {T : tT} (h : tE T) (sh s : Nat) : lit T sh s = 0 := by
  unfold lit
  rw [h.2.2.2.2]
  rfl
theorem lit_24 {T : tT} (h : tOK T) (sh s : Nat) : lit T sh s < 2 ^ 24 := by
  rcases h with h | h
  · exact up24 h.1 (lit_lt h sh s)
  · rw [lit_E h]
    decide
theorem w24 {a : Nat} (h : a < 2 ^ 24) : a < 2 ^ 32 := Nat.lt_trans h (by decide)
theorem tOK.n6 {T : tT} (h : tOK T) : tN T ≤ 6 := by
  rcases h with h | h
  · exact h.2.2.2.1
  · rw [h.2.2.2.2]; decide
theorem tOK.ok {T : tT} (h : tOK T) {k : Nat} (hk : k < tN T) : tOk T := by
  rcases h with h | h
  · exact h
  · rw [h.2.2.2.2] at hk
    omega
theorem tOK.okc {T : tT} (h : tOK T) {k : Nat} (hk : k < tC T) : tOk T := by
  rcases h with h | h
  · exact h
  · unfold tC at hk
    rw [h.1] at hk
    omega
theorem al_lt {T : tT} (h : tOK T) : al T < 64 := by
  have := Nat.pow_le_pow_right (n := 2) (by decide) h.n6
  unfold al
  omega
