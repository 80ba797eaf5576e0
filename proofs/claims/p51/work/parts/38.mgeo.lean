/-! the reference: steps, lines, corners, light -/
def dX (way : Nat) : Int := if way = 1 then 1 else if way = 3 then -1 else 0
def dY (way : Nat) : Int := if way = 0 then -1 else if way = 2 then 1 else 0
theorem nq_xy {T : tT} (hT : tG T) {c way : Nat} (hc : c < tC T) (hw : way < 4) : nq T c way = if 0 ≤ ((c % tW T : Nat) : Int) + dX way ∧ ((c % tW T : Nat) : Int) + dX way < tW T ∧ 0 ≤ ((c / tW T : Nat) : Int) + dY way ∧ ((c / tW T : Nat) : Int) + dY way < tH T then some ((tW T : Int) * (((c / tW T : Nat) : Int) + dY way) + (((c % tW T : Nat) : Int) + dX way)).toNat else none := by
  obtain ⟨h1, h2, h3, h4, -⟩ := hT
  unfold nq tC at *
  generalize tW T = w at *
  generalize tH T = h at *
  have hw6 : w = 2 ∨ w = 3 ∨ w = 4 ∨ w = 5 ∨ w = 6 := by omega
  match way, hw with
  | 0, _ =>
    simp only [show dX 0 = 0 from rfl, show dY 0 = -1 from rfl]
    rcases hw6 with rfl | rfl | rfl | rfl | rfl <;> split <;> split <;> first | rfl | (exfalso; omega) | (congr 1; omega)
  | 1, _ =>
    simp only [show dX 1 = 1 from rfl, show dY 1 = 0 from rfl]
    rcases hw6 with rfl | rfl | rfl | rfl | rfl <;> split <;> split <;> first | rfl | (exfalso; omega) | (congr 1; omega)
  | 2, _ =>
    simp only [show dX 2 = 0 from rfl, show dY 2 = 1 from rfl]
    rcases hw6 with rfl | rfl | rfl | rfl | rfl <;> split <;> split <;> first | rfl | (exfalso; omega) | (congr 1; omega)
  | 3, _ =>
    simp only [show dX 3 = -1 from rfl, show dY 3 = 0 from rfl]
    rcases hw6 with rfl | rfl | rfl | rfl | rfl <;> split <;> split <;> first | rfl | (exfalso; omega) | (congr 1; omega)
/-- a set and the streets beside it -/
def spT (T : tT) (s : Nat) : Nat := ((((s ||| s <<< tW T) ||| s >>> tW T) ||| (s &&& cm (rB T)) <<< 1) ||| (s &&& cm (lA T)) >>> 1) &&& tS T
theorem spT_eq (T : tT) (s : Nat) : spT T s = (s &&& tS T) ||| nr T s := by
  apply Nat.eq_of_testBit_eq
  intro i
  unfold spT nr
  simp only [Nat.testBit_and, Nat.testBit_or]
  cases (s.testBit i) <;> cases ((s <<< tW T).testBit i) <;> cases ((s >>> tW T).testBit i) <;> cases (((s &&& cm (rB T)) <<< 1).testBit i) <;> cases (((s &&& cm (lA T)) >>> 1).testBit i) <;> cases ((tS T).testBit i) <;> rfl
theorem one_sub {S c : Nat} (h : S.testBit c = true) : 1 <<< c &&& S = 1 <<< c := by
  apply Nat.eq_of_testBit_eq
  intro i
  rw [Nat.testBit_and, tb_one]
  by_cases e : c = i
  · subst e; simp [h]
  · simp [e]
theorem nr_sub (T : tT) (s : Nat) : nr T s &&& tS T = nr T s := by
  unfold nr
  rw [Nat.and_assoc, Nat.and_self]
theorem cor_sub {T : tT} {c : Nat} (h : (tS T).testBit c = true) : ∀ i, cor T c i &&& tS T = cor T c i
  | 0 => one_sub h
  | i + 1 => by
    show (cor T c i ||| nr T (cor T c i)) &&& tS T = _
    rw [Nat.and_or_distrib_right, cor_sub h i, nr_sub]
    rfl
theorem lnAt_none {T : tT} {c way i : Nat} (h : lnAt T c way i = none) : ∀ j, i ≤ j → lnAt T c way j = none
  | 0, hj => by
    obtain rfl : i = 0 := by omega
    exact h
  | j + 1, hj => by
    by_cases e : i = j + 1
    · subst e; exact h
    · rw [show lnAt T c way (j + 1) = match lnAt T c way j with
        | some q => nx T q way
        | none => none from rfl, lnAt_none h j (by omega)]
theorem lnS_early {T : tT} {c way i : Nat} (h : lnAt T c way i = none) : ∀ n, i ≤ n → lnS T c way n = orN (i + 1) (fun i => oneO (lnAt T c way i))
  | 0, hn => by
    obtain rfl : i = 0 := by omega
    rfl
  | n + 1, hn => by
    by_cases e : i = n + 1
    · subst e; rfl
    · have := lnS_early h n (by omega)
      show lnS T c way n ||| oneO (lnAt T c way (n + 1)) = _
      rw [this, lnAt_none h (n + 1) hn]
      exact Nat.or_zero _
section MG
variable {G : am_G} {l : Launch} {t : am_T} {I : am_I} {L : am_J} {Q : bm_P}
theorem mdiv {c w : Nat} (hc : c < 1000) (hw : 0 < w) (hw2 : w < 1000) : nI c / nI w = nI (c / w) ∧ nI c - nI c / nI w * nI w = nI (c % w) := ⟨pk_div (by omega) hw (by omega), pk_rem (by omega) hw (by omega)⟩
theorem addI {x y : Int32} (a b : Int) (hx : x.toInt = a) (hy : y.toInt = b) (h1 : -2 ^ 31 ≤ a + b) (h2 : a + b < 2 ^ 31) : (x + y).toInt = a + b := by
  rw [Int32.toInt_add, hx, hy]
  exact Int.bmod_eq_of_le (by omega) (by omega)
theorem subI {x y : Int32} (a b : Int) (hx : x.toInt = a) (hy : y.toInt = b) (h1 : -2 ^ 31 ≤ a - b) (h2 : a - b < 2 ^ 31) : (x - y).toInt = a - b := by
  rw [Int32.toInt_sub, hx, hy]
  exact Int.bmod_eq_of_le (by omega) (by omega)
end MG
